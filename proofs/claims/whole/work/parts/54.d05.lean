theorem dX12_lays_221 : decode cX12_lays 221 = .ok (.iload_n 3, 1) := by decide +kernel
theorem dX12_lays_222 : decode cX12_lays 222 = .ok (.ifCond .ne 63, 3) := by decide +kernel
theorem dX12_lays_225 : decode cX12_lays 225 = .ok (.aload_n 0, 1) := by decide +kernel
theorem dX12_lays_226 : decode cX12_lays 226 = .ok (.getfield 124, 3) := by decide +kernel
theorem dX12_lays_229 : decode cX12_lays 229 = .ok (.iload 4, 2) := by decide +kernel
theorem dX12_lays_231 : decode cX12_lays 231 = .ok (.dup2, 1) := by decide +kernel
theorem dX12_lays_232 : decode cX12_lays 232 = .ok (.iaload, 1) := by decide +kernel
theorem dX12_lays_233 : decode cX12_lays 233 = .ok (.iload 8, 2) := by decide +kernel
theorem dX12_lays_235 : decode cX12_lays 235 = .ok (.iload 4, 2) := by decide +kernel
theorem dX12_lays_237 : decode cX12_lays 237 = .ok (.if_icmp .eq 39, 3) := by decide +kernel
theorem dX12_lays_240 : decode cX12_lays 240 = .ok (.aload_n 0, 1) := by decide +kernel
theorem dX12_lays_241 : decode cX12_lays 241 = .ok (.getfield 16, 3) := by decide +kernel
theorem dX12_lays_244 : decode cX12_lays 244 = .ok (.iload 8, 2) := by decide +kernel
theorem dX12_lays_246 : decode cX12_lays 246 = .ok (.laload, 1) := by decide +kernel
theorem dX12_lays_247 : decode cX12_lays 247 = .ok (.invokestatic 196, 3) := by decide +kernel
theorem dX12_lays_250 : decode cX12_lays 250 = .ok (.aload_n 0, 1) := by decide +kernel
theorem dX12_lays_251 : decode cX12_lays 251 = .ok (.getfield 16, 3) := by decide +kernel
theorem dX12_lays_254 : decode cX12_lays 254 = .ok (.iload 4, 2) := by decide +kernel
theorem dX12_lays_256 : decode cX12_lays 256 = .ok (.laload, 1) := by decide +kernel
theorem dX12_lays_257 : decode cX12_lays 257 = .ok (.invokestatic 196, 3) := by decide +kernel
theorem dX12_lays_260 : decode cX12_lays 260 = .ok (.lcmp, 1) := by decide +kernel
theorem dX12_lays_261 : decode cX12_lays 261 = .ok (.ifCond .ne 15, 3) := by decide +kernel
theorem dX12_lays_264 : decode cX12_lays 264 = .ok (.aload_n 0, 1) := by decide +kernel
theorem dX12_lays_265 : decode cX12_lays 265 = .ok (.iload_n 1, 1) := by decide +kernel
theorem dX12_lays_266 : decode cX12_lays 266 = .ok (.iconst 1, 1) := by decide +kernel
theorem dX12_lays_267 : decode cX12_lays 267 = .ok (.isub, 1) := by decide +kernel
theorem dX12_lays_268 : decode cX12_lays 268 = .ok (.iload 8, 2) := by decide +kernel
theorem dX12_lays_270 : decode cX12_lays 270 = .ok (.invokevirtual 407, 3) := by decide +kernel
theorem dX12_lays_273 : decode cX12_lays 273 = .ok (.goto 4, 3) := by decide +kernel
theorem dX12_lays_276 : decode cX12_lays 276 = .ok (.iconst 0, 1) := by decide +kernel
theorem dX12_lays_277 : decode cX12_lays 277 = .ok (.iadd, 1) := by decide +kernel
theorem dX12_lays_278 : decode cX12_lays 278 = .ok (.iastore, 1) := by decide +kernel
theorem dX12_lays_279 : decode cX12_lays 279 = .ok (.iinc 8 1, 3) := by decide +kernel
theorem dX12_lays_282 : decode cX12_lays 282 = .ok (.goto (-72), 3) := by decide +kernel
theorem dX12_lays_285 : decode cX12_lays 285 = .ok (.aload_n 0, 1) := by decide +kernel
theorem dX12_lays_286 : decode cX12_lays 286 = .ok (.getfield 127, 3) := by decide +kernel
theorem dX12_lays_289 : decode cX12_lays 289 = .ok (.iload 4, 2) := by decide +kernel
theorem dX12_lays_291 : decode cX12_lays 291 = .ok (.aload_n 0, 1) := by decide +kernel
theorem dX12_lays_292 : decode cX12_lays 292 = .ok (.iload 4, 2) := by decide +kernel
theorem dX12_lays_294 : decode cX12_lays 294 = .ok (.iload_n 1, 1) := by decide +kernel
theorem dX12_lays_295 : decode cX12_lays 295 = .ok (.iload_n 2, 1) := by decide +kernel
theorem dX12_lays_296 : decode cX12_lays 296 = .ok (.invokevirtual 431, 3) := by decide +kernel
theorem dX12_lays_299 : decode cX12_lays 299 = .ok (.iastore, 1) := by decide +kernel
theorem dX12_lays_300 : decode cX12_lays 300 = .ok (.iconst 0, 1) := by decide +kernel
theorem dX12_lays_301 : decode cX12_lays 301 = .ok (.istore 8, 2) := by decide +kernel
theorem dX12_lays_303 : decode cX12_lays 303 = .ok (.iload 8, 2) := by decide +kernel
theorem dX12_lays_305 : decode cX12_lays 305 = .ok (.iconst 2, 1) := by decide +kernel
theorem dX12_lays_306 : decode cX12_lays 306 = .ok (.if_icmp .ge 29, 3) := by decide +kernel
theorem dX12_lays_309 : decode cX12_lays 309 = .ok (.aload_n 0, 1) := by decide +kernel
theorem dX12_lays_310 : decode cX12_lays 310 = .ok (.getfield 103, 3) := by decide +kernel
theorem dX12_lays_313 : decode cX12_lays 313 = .ok (.iload 8, 2) := by decide +kernel
theorem dX12_lays_315 : decode cX12_lays 315 = .ok (.iaload, 1) := by decide +kernel
theorem dX12_lays_316 : decode cX12_lays 316 = .ok (.iconst (-1), 1) := by decide +kernel
theorem dX12_lays_317 : decode cX12_lays 317 = .ok (.if_icmp .eq 12, 3) := by decide +kernel
theorem dX12_lays_320 : decode cX12_lays 320 = .ok (.aload_n 0, 1) := by decide +kernel
theorem dX12_lays_321 : decode cX12_lays 321 = .ok (.iload_n 1, 1) := by decide +kernel
theorem dX12_lays_322 : decode cX12_lays 322 = .ok (.iload 8, 2) := by decide +kernel
theorem dX12_lays_324 : decode cX12_lays 324 = .ok (.iload 4, 2) := by decide +kernel
theorem dX12_lays_326 : decode cX12_lays 326 = .ok (.invokevirtual 434, 3) := by decide +kernel
theorem dX12_lays_329 : decode cX12_lays 329 = .ok (.iinc 8 1, 3) := by decide +kernel
theorem dX12_lays_332 : decode cX12_lays 332 = .ok (.goto (-29), 3) := by decide +kernel
theorem dX12_lays_335 : decode cX12_lays 335 = .ok (.iinc 4 1, 3) := by decide +kernel
theorem dX12_lays_338 : decode cX12_lays 338 = .ok (.goto (-335), 3) := by decide +kernel
theorem dX12_lays_341 : decode cX12_lays 341 = .ok (.aload_n 0, 1) := by decide +kernel
theorem dX12_lays_342 : decode cX12_lays 342 = .ok (.iconst 0, 1) := by decide +kernel
theorem dX12_lays_343 : decode cX12_lays 343 = .ok (.putfield 438, 3) := by decide +kernel
theorem dX12_lays_346 : decode cX12_lays 346 = .ok (.iconst 0, 1) := by decide +kernel
theorem dX12_lays_347 : decode cX12_lays 347 = .ok (.istore 4, 2) := by decide +kernel
theorem dX12_lays_349 : decode cX12_lays 349 = .ok (.iload 4, 2) := by decide +kernel
theorem dX12_lays_351 : decode cX12_lays 351 = .ok (.aload_n 0, 1) := by decide +kernel
theorem dX12_lays_352 : decode cX12_lays 352 = .ok (.getfield 7, 3) := by decide +kernel
theorem dX12_lays_355 : decode cX12_lays 355 = .ok (.iconst 2, 1) := by decide +kernel
theorem dX12_lays_356 : decode cX12_lays 356 = .ok (.iaload, 1) := by decide +kernel
theorem dX12_lays_357 : decode cX12_lays 357 = .ok (.if_icmp .ge 50, 3) := by decide +kernel
theorem dX12_lays_360 : decode cX12_lays 360 = .ok (.aload_n 0, 1) := by decide +kernel
theorem dX12_lays_361 : decode cX12_lays 361 = .ok (.aload_n 0, 1) := by decide +kernel
theorem dX12_lays_362 : decode cX12_lays 362 = .ok (.getfield 7, 3) := by decide +kernel
theorem dX12_lays_365 : decode cX12_lays 365 = .ok (.bipush 50, 2) := by decide +kernel
theorem dX12_lays_367 : decode cX12_lays 367 = .ok (.iconst 2, 1) := by decide +kernel
theorem dX12_lays_368 : decode cX12_lays 368 = .ok (.iload 4, 2) := by decide +kernel
theorem dX12_lays_370 : decode cX12_lays 370 = .ok (.imul, 1) := by decide +kernel
theorem dX12_lays_371 : decode cX12_lays 371 = .ok (.iadd, 1) := by decide +kernel
theorem dX12_lays_372 : decode cX12_lays 372 = .ok (.iaload, 1) := by decide +kernel
theorem dX12_lays_373 : decode cX12_lays 373 = .ok (.iload_n 1, 1) := by decide +kernel
theorem dX12_lays_374 : decode cX12_lays 374 = .ok (.if_icmp .gt 20, 3) := by decide +kernel
theorem dX12_lays_377 : decode cX12_lays 377 = .ok (.aload_n 0, 1) := by decide +kernel
theorem dX12_lays_378 : decode cX12_lays 378 = .ok (.getfield 7, 3) := by decide +kernel
theorem dX12_lays_381 : decode cX12_lays 381 = .ok (.bipush 50, 2) := by decide +kernel
theorem dX12_lays_383 : decode cX12_lays 383 = .ok (.iconst 2, 1) := by decide +kernel
theorem dX12_lays_384 : decode cX12_lays 384 = .ok (.iload 4, 2) := by decide +kernel
theorem dX12_lays_386 : decode cX12_lays 386 = .ok (.imul, 1) := by decide +kernel
theorem dX12_lays_387 : decode cX12_lays 387 = .ok (.iadd, 1) := by decide +kernel
theorem dX12_lays_388 : decode cX12_lays 388 = .ok (.iconst 1, 1) := by decide +kernel
theorem dX12_lays_389 : decode cX12_lays 389 = .ok (.iadd, 1) := by decide +kernel
theorem dX12_lays_390 : decode cX12_lays 390 = .ok (.iaload, 1) := by decide +kernel
theorem dX12_lays_391 : decode cX12_lays 391 = .ok (.goto 7, 3) := by decide +kernel
theorem dX12_lays_394 : decode cX12_lays 394 = .ok (.aload_n 0, 1) := by decide +kernel
theorem dX12_lays_395 : decode cX12_lays 395 = .ok (.getfield 438, 3) := by decide +kernel
theorem dX12_lays_398 : decode cX12_lays 398 = .ok (.putfield 438, 3) := by decide +kernel
theorem dX12_lays_401 : decode cX12_lays 401 = .ok (.iinc 4 1, 3) := by decide +kernel
theorem dX12_lays_404 : decode cX12_lays 404 = .ok (.goto (-55), 3) := by decide +kernel
theorem dX12_lays_407 : decode cX12_lays 407 = .ok (.return_, 1) := by decide +kernel
theorem dX12_laysOf_0 : decode cX12_laysOf 0 = .ok (.aload_n 0, 1) := by decide +kernel
theorem dX12_laysOf_1 : decode cX12_laysOf 1 = .ok (.getfield 103, 3) := by decide +kernel
theorem dX12_laysOf_4 : decode cX12_laysOf 4 = .ok (.iload_n 2, 1) := by decide +kernel
theorem dX12_laysOf_5 : decode cX12_laysOf 5 = .ok (.iaload, 1) := by decide +kernel
theorem dX12_laysOf_6 : decode cX12_laysOf 6 = .ok (.istore 4, 2) := by decide +kernel
theorem dX12_laysOf_8 : decode cX12_laysOf 8 = .ok (.iconst 0, 1) := by decide +kernel
theorem dX12_laysOf_9 : decode cX12_laysOf 9 = .ok (.istore 5, 2) := by decide +kernel
theorem dX12_laysOf_11 : decode cX12_laysOf 11 = .ok (.iload 5, 2) := by decide +kernel
theorem dX12_laysOf_13 : decode cX12_laysOf 13 = .ok (.iconst 3, 1) := by decide +kernel
theorem dX12_laysOf_14 : decode cX12_laysOf 14 = .ok (.if_icmp .ge 27, 3) := by decide +kernel
theorem dX12_laysOf_17 : decode cX12_laysOf 17 = .ok (.aload_n 0, 1) := by decide +kernel
theorem dX12_laysOf_18 : decode cX12_laysOf 18 = .ok (.getfield 106, 3) := by decide +kernel
theorem dX12_laysOf_21 : decode cX12_laysOf 21 = .ok (.bipush 48, 2) := by decide +kernel
theorem dX12_laysOf_23 : decode cX12_laysOf 23 = .ok (.iload_n 2, 1) := by decide +kernel
theorem dX12_laysOf_24 : decode cX12_laysOf 24 = .ok (.imul, 1) := by decide +kernel
theorem dX12_laysOf_25 : decode cX12_laysOf 25 = .ok (.bipush 16, 2) := by decide +kernel
theorem dX12_laysOf_27 : decode cX12_laysOf 27 = .ok (.iload 5, 2) := by decide +kernel
theorem dX12_laysOf_29 : decode cX12_laysOf 29 = .ok (.imul, 1) := by decide +kernel
theorem dX12_laysOf_30 : decode cX12_laysOf 30 = .ok (.iadd, 1) := by decide +kernel
theorem dX12_laysOf_31 : decode cX12_laysOf 31 = .ok (.iload_n 3, 1) := by decide +kernel
theorem dX12_laysOf_32 : decode cX12_laysOf 32 = .ok (.iadd, 1) := by decide +kernel
theorem dX12_laysOf_33 : decode cX12_laysOf 33 = .ok (.iconst 0, 1) := by decide +kernel
theorem dX12_laysOf_34 : decode cX12_laysOf 34 = .ok (.iastore, 1) := by decide +kernel
theorem dX12_laysOf_35 : decode cX12_laysOf 35 = .ok (.iinc 5 1, 3) := by decide +kernel
theorem dX12_laysOf_38 : decode cX12_laysOf 38 = .ok (.goto (-27), 3) := by decide +kernel
theorem dX12_laysOf_41 : decode cX12_laysOf 41 = .ok (.aload_n 0, 1) := by decide +kernel
theorem dX12_laysOf_42 : decode cX12_laysOf 42 = .ok (.getfield 109, 3) := by decide +kernel
theorem dX12_laysOf_45 : decode cX12_laysOf 45 = .ok (.bipush 32, 2) := by decide +kernel
theorem dX12_laysOf_47 : decode cX12_laysOf 47 = .ok (.iload_n 2, 1) := by decide +kernel
theorem dX12_laysOf_48 : decode cX12_laysOf 48 = .ok (.imul, 1) := by decide +kernel
theorem dX12_laysOf_49 : decode cX12_laysOf 49 = .ok (.iload_n 3, 1) := by decide +kernel
theorem dX12_laysOf_50 : decode cX12_laysOf 50 = .ok (.iadd, 1) := by decide +kernel
theorem dX12_laysOf_51 : decode cX12_laysOf 51 = .ok (.iconst 0, 1) := by decide +kernel
theorem dX12_laysOf_52 : decode cX12_laysOf 52 = .ok (.iastore, 1) := by decide +kernel
theorem dX12_laysOf_53 : decode cX12_laysOf 53 = .ok (.aload_n 0, 1) := by decide +kernel
theorem dX12_laysOf_54 : decode cX12_laysOf 54 = .ok (.getfield 109, 3) := by decide +kernel
theorem dX12_laysOf_57 : decode cX12_laysOf 57 = .ok (.bipush 32, 2) := by decide +kernel
theorem dX12_laysOf_59 : decode cX12_laysOf 59 = .ok (.iload_n 2, 1) := by decide +kernel
theorem dX12_laysOf_60 : decode cX12_laysOf 60 = .ok (.imul, 1) := by decide +kernel
theorem dX12_laysOf_61 : decode cX12_laysOf 61 = .ok (.bipush 16, 2) := by decide +kernel
theorem dX12_laysOf_63 : decode cX12_laysOf 63 = .ok (.iadd, 1) := by decide +kernel
theorem dX12_laysOf_64 : decode cX12_laysOf 64 = .ok (.iload_n 3, 1) := by decide +kernel
theorem dX12_laysOf_65 : decode cX12_laysOf 65 = .ok (.iadd, 1) := by decide +kernel
theorem dX12_laysOf_66 : decode cX12_laysOf 66 = .ok (.iconst 0, 1) := by decide +kernel
theorem dX12_laysOf_67 : decode cX12_laysOf 67 = .ok (.iastore, 1) := by decide +kernel
theorem dX12_laysOf_68 : decode cX12_laysOf 68 = .ok (.bipush (-40), 2) := by decide +kernel
theorem dX12_laysOf_70 : decode cX12_laysOf 70 = .ok (.iload_n 1, 1) := by decide +kernel
theorem dX12_laysOf_71 : decode cX12_laysOf 71 = .ok (.aload_n 0, 1) := by decide +kernel
theorem dX12_laysOf_72 : decode cX12_laysOf 72 = .ok (.getfield 40, 3) := by decide +kernel
theorem dX12_laysOf_75 : decode cX12_laysOf 75 = .ok (.iload 4, 2) := by decide +kernel
theorem dX12_laysOf_77 : decode cX12_laysOf 77 = .ok (.iaload, 1) := by decide +kernel
theorem dX12_laysOf_78 : decode cX12_laysOf 78 = .ok (.isub, 1) := by decide +kernel
theorem dX12_laysOf_79 : decode cX12_laysOf 79 = .ok (.iconst 1, 1) := by decide +kernel
theorem dX12_laysOf_80 : decode cX12_laysOf 80 = .ok (.iadd, 1) := by decide +kernel
theorem dX12_laysOf_81 : decode cX12_laysOf 81 = .ok (.invokestatic 410, 3) := by decide +kernel
theorem dX12_laysOf_84 : decode cX12_laysOf 84 = .ok (.istore 5, 2) := by decide +kernel
theorem dX12_laysOf_86 : decode cX12_laysOf 86 = .ok (.iload 5, 2) := by decide +kernel
theorem dX12_laysOf_88 : decode cX12_laysOf 88 = .ok (.iload_n 1, 1) := by decide +kernel
theorem dX12_laysOf_89 : decode cX12_laysOf 89 = .ok (.if_icmp .ge 129, 3) := by decide +kernel
theorem dX12_laysOf_92 : decode cX12_laysOf 92 = .ok (.iconst 0, 1) := by decide +kernel
theorem dX12_laysOf_93 : decode cX12_laysOf 93 = .ok (.istore 6, 2) := by decide +kernel
theorem dX12_laysOf_95 : decode cX12_laysOf 95 = .ok (.iload 6, 2) := by decide +kernel
theorem dX12_laysOf_97 : decode cX12_laysOf 97 = .ok (.iconst 3, 1) := by decide +kernel
theorem dX12_laysOf_98 : decode cX12_laysOf 98 = .ok (.if_icmp .ge 50, 3) := by decide +kernel
theorem dX12_laysOf_101 : decode cX12_laysOf 101 = .ok (.aload_n 0, 1) := by decide +kernel
theorem dX12_laysOf_102 : decode cX12_laysOf 102 = .ok (.getfield 106, 3) := by decide +kernel
theorem dX12_laysOf_105 : decode cX12_laysOf 105 = .ok (.bipush 48, 2) := by decide +kernel
theorem dX12_laysOf_107 : decode cX12_laysOf 107 = .ok (.iload_n 2, 1) := by decide +kernel
theorem dX12_laysOf_108 : decode cX12_laysOf 108 = .ok (.imul, 1) := by decide +kernel
theorem dX12_laysOf_109 : decode cX12_laysOf 109 = .ok (.bipush 16, 2) := by decide +kernel
theorem dX12_laysOf_111 : decode cX12_laysOf 111 = .ok (.iload 6, 2) := by decide +kernel
theorem dX12_laysOf_113 : decode cX12_laysOf 113 = .ok (.imul, 1) := by decide +kernel
theorem dX12_laysOf_114 : decode cX12_laysOf 114 = .ok (.iadd, 1) := by decide +kernel
theorem dX12_laysOf_115 : decode cX12_laysOf 115 = .ok (.iload_n 3, 1) := by decide +kernel
theorem dX12_laysOf_116 : decode cX12_laysOf 116 = .ok (.iadd, 1) := by decide +kernel
theorem dX12_laysOf_117 : decode cX12_laysOf 117 = .ok (.dup2, 1) := by decide +kernel
theorem dX12_laysOf_118 : decode cX12_laysOf 118 = .ok (.iaload, 1) := by decide +kernel
theorem dX12_laysOf_119 : decode cX12_laysOf 119 = .ok (.aload_n 0, 1) := by decide +kernel
theorem dX12_laysOf_120 : decode cX12_laysOf 120 = .ok (.getfield 91, 3) := by decide +kernel
theorem dX12_laysOf_123 : decode cX12_laysOf 123 = .ok (.bipush 48, 2) := by decide +kernel
theorem dX12_laysOf_125 : decode cX12_laysOf 125 = .ok (.iload 5, 2) := by decide +kernel
theorem dX12_laysOf_127 : decode cX12_laysOf 127 = .ok (.bipush 40, 2) := by decide +kernel
theorem dX12_laysOf_129 : decode cX12_laysOf 129 = .ok (.iadd, 1) := by decide +kernel
theorem dX12_laysOf_130 : decode cX12_laysOf 130 = .ok (.imul, 1) := by decide +kernel
theorem dX12_laysOf_131 : decode cX12_laysOf 131 = .ok (.bipush 16, 2) := by decide +kernel
theorem dX12_laysOf_133 : decode cX12_laysOf 133 = .ok (.iload 6, 2) := by decide +kernel
theorem dX12_laysOf_135 : decode cX12_laysOf 135 = .ok (.imul, 1) := by decide +kernel
theorem dX12_laysOf_136 : decode cX12_laysOf 136 = .ok (.iadd, 1) := by decide +kernel
theorem dX12_laysOf_137 : decode cX12_laysOf 137 = .ok (.iload_n 3, 1) := by decide +kernel
theorem dX12_laysOf_138 : decode cX12_laysOf 138 = .ok (.iadd, 1) := by decide +kernel
theorem dX12_laysOf_139 : decode cX12_laysOf 139 = .ok (.iaload, 1) := by decide +kernel
theorem dX12_laysOf_140 : decode cX12_laysOf 140 = .ok (.iadd, 1) := by decide +kernel
theorem dX12_laysOf_141 : decode cX12_laysOf 141 = .ok (.iastore, 1) := by decide +kernel
theorem dX12_laysOf_142 : decode cX12_laysOf 142 = .ok (.iinc 6 1, 3) := by decide +kernel
theorem dX12_laysOf_145 : decode cX12_laysOf 145 = .ok (.goto (-50), 3) := by decide +kernel
theorem dX12_laysOf_148 : decode cX12_laysOf 148 = .ok (.aload_n 0, 1) := by decide +kernel
theorem dX12_laysOf_149 : decode cX12_laysOf 149 = .ok (.getfield 109, 3) := by decide +kernel
theorem dX12_laysOf_152 : decode cX12_laysOf 152 = .ok (.bipush 32, 2) := by decide +kernel
theorem dX12_laysOf_154 : decode cX12_laysOf 154 = .ok (.iload_n 2, 1) := by decide +kernel
theorem dX12_laysOf_155 : decode cX12_laysOf 155 = .ok (.imul, 1) := by decide +kernel
theorem dX12_laysOf_156 : decode cX12_laysOf 156 = .ok (.iload_n 3, 1) := by decide +kernel
theorem dX12_laysOf_157 : decode cX12_laysOf 157 = .ok (.iadd, 1) := by decide +kernel
theorem dX12_laysOf_158 : decode cX12_laysOf 158 = .ok (.dup2, 1) := by decide +kernel
theorem dX12_laysOf_159 : decode cX12_laysOf 159 = .ok (.iaload, 1) := by decide +kernel
theorem dX12_laysOf_160 : decode cX12_laysOf 160 = .ok (.aload_n 0, 1) := by decide +kernel
theorem dX12_laysOf_161 : decode cX12_laysOf 161 = .ok (.getfield 94, 3) := by decide +kernel
theorem dX12_laysOf_164 : decode cX12_laysOf 164 = .ok (.bipush 32, 2) := by decide +kernel
theorem dX12_laysOf_166 : decode cX12_laysOf 166 = .ok (.iload 5, 2) := by decide +kernel
theorem dX12_laysOf_168 : decode cX12_laysOf 168 = .ok (.bipush 40, 2) := by decide +kernel
theorem dX12_laysOf_170 : decode cX12_laysOf 170 = .ok (.iadd, 1) := by decide +kernel
theorem dX12_laysOf_171 : decode cX12_laysOf 171 = .ok (.imul, 1) := by decide +kernel
theorem dX12_laysOf_172 : decode cX12_laysOf 172 = .ok (.iload_n 3, 1) := by decide +kernel
theorem dX12_laysOf_173 : decode cX12_laysOf 173 = .ok (.iadd, 1) := by decide +kernel
theorem dX12_laysOf_174 : decode cX12_laysOf 174 = .ok (.iaload, 1) := by decide +kernel
theorem dX12_laysOf_175 : decode cX12_laysOf 175 = .ok (.iadd, 1) := by decide +kernel
theorem dX12_laysOf_176 : decode cX12_laysOf 176 = .ok (.iastore, 1) := by decide +kernel
theorem dX12_laysOf_177 : decode cX12_laysOf 177 = .ok (.aload_n 0, 1) := by decide +kernel
theorem dX12_laysOf_178 : decode cX12_laysOf 178 = .ok (.getfield 109, 3) := by decide +kernel
theorem dX12_laysOf_181 : decode cX12_laysOf 181 = .ok (.bipush 32, 2) := by decide +kernel
theorem dX12_laysOf_183 : decode cX12_laysOf 183 = .ok (.iload_n 2, 1) := by decide +kernel
theorem dX12_laysOf_184 : decode cX12_laysOf 184 = .ok (.imul, 1) := by decide +kernel
theorem dX12_laysOf_185 : decode cX12_laysOf 185 = .ok (.bipush 16, 2) := by decide +kernel
theorem dX12_laysOf_187 : decode cX12_laysOf 187 = .ok (.iadd, 1) := by decide +kernel
theorem dX12_laysOf_188 : decode cX12_laysOf 188 = .ok (.iload_n 3, 1) := by decide +kernel
theorem dX12_laysOf_189 : decode cX12_laysOf 189 = .ok (.iadd, 1) := by decide +kernel
theorem dX12_laysOf_190 : decode cX12_laysOf 190 = .ok (.dup2, 1) := by decide +kernel
theorem dX12_laysOf_191 : decode cX12_laysOf 191 = .ok (.iaload, 1) := by decide +kernel
theorem dX12_laysOf_192 : decode cX12_laysOf 192 = .ok (.aload_n 0, 1) := by decide +kernel
theorem dX12_laysOf_193 : decode cX12_laysOf 193 = .ok (.getfield 94, 3) := by decide +kernel
theorem dX12_laysOf_196 : decode cX12_laysOf 196 = .ok (.bipush 32, 2) := by decide +kernel
theorem dX12_laysOf_198 : decode cX12_laysOf 198 = .ok (.iload 5, 2) := by decide +kernel
theorem dX12_laysOf_200 : decode cX12_laysOf 200 = .ok (.bipush 40, 2) := by decide +kernel
theorem dX12_laysOf_202 : decode cX12_laysOf 202 = .ok (.iadd, 1) := by decide +kernel
theorem dX12_laysOf_203 : decode cX12_laysOf 203 = .ok (.imul, 1) := by decide +kernel
theorem dX12_laysOf_204 : decode cX12_laysOf 204 = .ok (.bipush 16, 2) := by decide +kernel
theorem dX12_laysOf_206 : decode cX12_laysOf 206 = .ok (.iadd, 1) := by decide +kernel
theorem dX12_laysOf_207 : decode cX12_laysOf 207 = .ok (.iload_n 3, 1) := by decide +kernel
theorem dX12_laysOf_208 : decode cX12_laysOf 208 = .ok (.iadd, 1) := by decide +kernel
theorem dX12_laysOf_209 : decode cX12_laysOf 209 = .ok (.iaload, 1) := by decide +kernel
theorem dX12_laysOf_210 : decode cX12_laysOf 210 = .ok (.iadd, 1) := by decide +kernel
theorem dX12_laysOf_211 : decode cX12_laysOf 211 = .ok (.iastore, 1) := by decide +kernel
theorem dX12_laysOf_212 : decode cX12_laysOf 212 = .ok (.iinc 5 1, 3) := by decide +kernel
theorem dX12_laysOf_215 : decode cX12_laysOf 215 = .ok (.goto (-129), 3) := by decide +kernel
theorem dX12_laysOf_218 : decode cX12_laysOf 218 = .ok (.iconst 0, 1) := by decide +kernel
theorem dX12_laysOf_219 : decode cX12_laysOf 219 = .ok (.istore 5, 2) := by decide +kernel
theorem dX12_laysOf_221 : decode cX12_laysOf 221 = .ok (.bipush (-40), 2) := by decide +kernel
theorem dX12_laysOf_223 : decode cX12_laysOf 223 = .ok (.iload_n 1, 1) := by decide +kernel
theorem dX12_laysOf_224 : decode cX12_laysOf 224 = .ok (.aload_n 0, 1) := by decide +kernel
theorem dX12_laysOf_225 : decode cX12_laysOf 225 = .ok (.getfield 7, 3) := by decide +kernel
theorem dX12_laysOf_228 : decode cX12_laysOf 228 = .ok (.bipush 6, 2) := by decide +kernel
theorem dX12_laysOf_230 : decode cX12_laysOf 230 = .ok (.iaload, 1) := by decide +kernel
theorem dX12_laysOf_231 : decode cX12_laysOf 231 = .ok (.isub, 1) := by decide +kernel
theorem dX12_laysOf_232 : decode cX12_laysOf 232 = .ok (.iconst 1, 1) := by decide +kernel
theorem dX12_laysOf_233 : decode cX12_laysOf 233 = .ok (.iadd, 1) := by decide +kernel
theorem dX12_laysOf_234 : decode cX12_laysOf 234 = .ok (.invokestatic 410, 3) := by decide +kernel
theorem dX12_laysOf_237 : decode cX12_laysOf 237 = .ok (.istore 6, 2) := by decide +kernel
theorem dX12_laysOf_239 : decode cX12_laysOf 239 = .ok (.iload 6, 2) := by decide +kernel
theorem dX12_laysOf_241 : decode cX12_laysOf 241 = .ok (.iload_n 1, 1) := by decide +kernel
theorem dX12_laysOf_242 : decode cX12_laysOf 242 = .ok (.aload_n 0, 1) := by decide +kernel
theorem dX12_laysOf_243 : decode cX12_laysOf 243 = .ok (.getfield 43, 3) := by decide +kernel
theorem dX12_laysOf_246 : decode cX12_laysOf 246 = .ok (.iload 4, 2) := by decide +kernel
theorem dX12_laysOf_248 : decode cX12_laysOf 248 = .ok (.iaload, 1) := by decide +kernel
theorem dX12_laysOf_249 : decode cX12_laysOf 249 = .ok (.isub, 1) := by decide +kernel
theorem dX12_laysOf_250 : decode cX12_laysOf 250 = .ok (.if_icmp .gt 21, 3) := by decide +kernel
theorem dX12_laysOf_253 : decode cX12_laysOf 253 = .ok (.iload 5, 2) := by decide +kernel
theorem dX12_laysOf_255 : decode cX12_laysOf 255 = .ok (.aload_n 0, 1) := by decide +kernel
theorem dX12_laysOf_256 : decode cX12_laysOf 256 = .ok (.iload 6, 2) := by decide +kernel
theorem dX12_laysOf_258 : decode cX12_laysOf 258 = .ok (.iload_n 3, 1) := by decide +kernel
theorem dX12_laysOf_259 : decode cX12_laysOf 259 = .ok (.invokevirtual 407, 3) := by decide +kernel
theorem dX12_laysOf_262 : decode cX12_laysOf 262 = .ok (.iadd, 1) := by decide +kernel
theorem dX12_laysOf_263 : decode cX12_laysOf 263 = .ok (.istore 5, 2) := by decide +kernel
theorem dX12_laysOf_265 : decode cX12_laysOf 265 = .ok (.iinc 6 1, 3) := by decide +kernel
theorem dX12_laysOf_268 : decode cX12_laysOf 268 = .ok (.goto (-29), 3) := by decide +kernel
theorem dX12_laysOf_271 : decode cX12_laysOf 271 = .ok (.aload_n 0, 1) := by decide +kernel
theorem dX12_laysOf_272 : decode cX12_laysOf 272 = .ok (.getfield 112, 3) := by decide +kernel
theorem dX12_laysOf_275 : decode cX12_laysOf 275 = .ok (.bipush 16, 2) := by decide +kernel
theorem dX12_laysOf_277 : decode cX12_laysOf 277 = .ok (.iload_n 2, 1) := by decide +kernel
theorem dX12_laysOf_278 : decode cX12_laysOf 278 = .ok (.imul, 1) := by decide +kernel
theorem dX12_laysOf_279 : decode cX12_laysOf 279 = .ok (.iload_n 3, 1) := by decide +kernel
theorem dX12_laysOf_280 : decode cX12_laysOf 280 = .ok (.iadd, 1) := by decide +kernel
theorem dX12_laysOf_281 : decode cX12_laysOf 281 = .ok (.iload 5, 2) := by decide +kernel
theorem dX12_laysOf_283 : decode cX12_laysOf 283 = .ok (.iastore, 1) := by decide +kernel
theorem dX12_laysOf_284 : decode cX12_laysOf 284 = .ok (.return_, 1) := by decide +kernel
theorem dX12_filmOf_0 : decode cX12_filmOf 0 = .ok (.iconst 0, 1) := by decide +kernel
theorem dX12_filmOf_1 : decode cX12_filmOf 1 = .ok (.istore 4, 2) := by decide +kernel
theorem dX12_filmOf_3 : decode cX12_filmOf 3 = .ok (.iconst 0, 1) := by decide +kernel
theorem dX12_filmOf_4 : decode cX12_filmOf 4 = .ok (.istore 5, 2) := by decide +kernel
theorem dX12_filmOf_6 : decode cX12_filmOf 6 = .ok (.iload 5, 2) := by decide +kernel
theorem dX12_filmOf_8 : decode cX12_filmOf 8 = .ok (.aload_n 0, 1) := by decide +kernel
theorem dX12_filmOf_9 : decode cX12_filmOf 9 = .ok (.getfield 7, 3) := by decide +kernel
theorem dX12_filmOf_12 : decode cX12_filmOf 12 = .ok (.iconst 3, 1) := by decide +kernel
theorem dX12_filmOf_13 : decode cX12_filmOf 13 = .ok (.iaload, 1) := by decide +kernel
theorem dX12_filmOf_14 : decode cX12_filmOf 14 = .ok (.if_icmp .ge 94, 3) := by decide +kernel
theorem dX12_filmOf_17 : decode cX12_filmOf 17 = .ok (.bipush 70, 2) := by decide +kernel
theorem dX12_filmOf_19 : decode cX12_filmOf 19 = .ok (.iconst 3, 1) := by decide +kernel
theorem dX12_filmOf_20 : decode cX12_filmOf 20 = .ok (.iload 5, 2) := by decide +kernel
theorem dX12_filmOf_22 : decode cX12_filmOf 22 = .ok (.imul, 1) := by decide +kernel
theorem dX12_filmOf_23 : decode cX12_filmOf 23 = .ok (.iadd, 1) := by decide +kernel
theorem dX12_filmOf_24 : decode cX12_filmOf 24 = .ok (.istore 6, 2) := by decide +kernel
theorem dX12_filmOf_26 : decode cX12_filmOf 26 = .ok (.iload 5, 2) := by decide +kernel
theorem dX12_filmOf_28 : decode cX12_filmOf 28 = .ok (.iload_n 3, 1) := by decide +kernel
theorem dX12_filmOf_29 : decode cX12_filmOf 29 = .ok (.if_icmp .eq 73, 3) := by decide +kernel
theorem dX12_filmOf_32 : decode cX12_filmOf 32 = .ok (.aload_n 0, 1) := by decide +kernel
theorem dX12_filmOf_33 : decode cX12_filmOf 33 = .ok (.getfield 7, 3) := by decide +kernel
theorem dX12_filmOf_36 : decode cX12_filmOf 36 = .ok (.iload 6, 2) := by decide +kernel
theorem dX12_filmOf_38 : decode cX12_filmOf 38 = .ok (.iaload, 1) := by decide +kernel
theorem dX12_filmOf_39 : decode cX12_filmOf 39 = .ok (.iload_n 1, 1) := by decide +kernel
theorem dX12_filmOf_40 : decode cX12_filmOf 40 = .ok (.if_icmp .ne 62, 3) := by decide +kernel
theorem dX12_filmOf_43 : decode cX12_filmOf 43 = .ok (.aload_n 0, 1) := by decide +kernel
theorem dX12_filmOf_44 : decode cX12_filmOf 44 = .ok (.getfield 7, 3) := by decide +kernel
theorem dX12_filmOf_47 : decode cX12_filmOf 47 = .ok (.iload 6, 2) := by decide +kernel
theorem dX12_filmOf_49 : decode cX12_filmOf 49 = .ok (.iconst 1, 1) := by decide +kernel
theorem dX12_filmOf_50 : decode cX12_filmOf 50 = .ok (.iadd, 1) := by decide +kernel
theorem dX12_filmOf_51 : decode cX12_filmOf 51 = .ok (.iaload, 1) := by decide +kernel
theorem dX12_filmOf_52 : decode cX12_filmOf 52 = .ok (.iload_n 2, 1) := by decide +kernel
theorem dX12_filmOf_53 : decode cX12_filmOf 53 = .ok (.if_icmp .gt 49, 3) := by decide +kernel
theorem dX12_filmOf_56 : decode cX12_filmOf 56 = .ok (.iload 4, 2) := by decide +kernel
theorem dX12_filmOf_58 : decode cX12_filmOf 58 = .ok (.iload_n 2, 1) := by decide +kernel
theorem dX12_filmOf_59 : decode cX12_filmOf 59 = .ok (.aload_n 0, 1) := by decide +kernel
theorem dX12_filmOf_60 : decode cX12_filmOf 60 = .ok (.getfield 7, 3) := by decide +kernel
theorem dX12_filmOf_63 : decode cX12_filmOf 63 = .ok (.iload 6, 2) := by decide +kernel
theorem dX12_filmOf_65 : decode cX12_filmOf 65 = .ok (.iconst 1, 1) := by decide +kernel
theorem dX12_filmOf_66 : decode cX12_filmOf 66 = .ok (.iadd, 1) := by decide +kernel
theorem dX12_filmOf_67 : decode cX12_filmOf 67 = .ok (.iaload, 1) := by decide +kernel
theorem dX12_filmOf_68 : decode cX12_filmOf 68 = .ok (.isub, 1) := by decide +kernel
theorem dX12_filmOf_69 : decode cX12_filmOf 69 = .ok (.bipush 20, 2) := by decide +kernel
theorem dX12_filmOf_71 : decode cX12_filmOf 71 = .ok (.if_icmp .le 7, 3) := by decide +kernel
theorem dX12_filmOf_74 : decode cX12_filmOf 74 = .ok (.iconst 0, 1) := by decide +kernel
theorem dX12_filmOf_75 : decode cX12_filmOf 75 = .ok (.goto 24, 3) := by decide +kernel
theorem dX12_filmOf_78 : decode cX12_filmOf 78 = .ok (.aload_n 0, 1) := by decide +kernel
theorem dX12_filmOf_79 : decode cX12_filmOf 79 = .ok (.getfield 7, 3) := by decide +kernel
theorem dX12_filmOf_82 : decode cX12_filmOf 82 = .ok (.iload 6, 2) := by decide +kernel
theorem dX12_filmOf_84 : decode cX12_filmOf 84 = .ok (.iconst 2, 1) := by decide +kernel
theorem dX12_filmOf_85 : decode cX12_filmOf 85 = .ok (.iadd, 1) := by decide +kernel
theorem dX12_filmOf_86 : decode cX12_filmOf 86 = .ok (.iaload, 1) := by decide +kernel
theorem dX12_filmOf_87 : decode cX12_filmOf 87 = .ok (.iload_n 2, 1) := by decide +kernel
theorem dX12_filmOf_88 : decode cX12_filmOf 88 = .ok (.aload_n 0, 1) := by decide +kernel
theorem dX12_filmOf_89 : decode cX12_filmOf 89 = .ok (.getfield 7, 3) := by decide +kernel
theorem dX12_filmOf_92 : decode cX12_filmOf 92 = .ok (.iload 6, 2) := by decide +kernel
theorem dX12_filmOf_94 : decode cX12_filmOf 94 = .ok (.iconst 1, 1) := by decide +kernel
theorem dX12_filmOf_95 : decode cX12_filmOf 95 = .ok (.iadd, 1) := by decide +kernel
theorem dX12_filmOf_96 : decode cX12_filmOf 96 = .ok (.iaload, 1) := by decide +kernel
theorem dX12_filmOf_97 : decode cX12_filmOf 97 = .ok (.isub, 1) := by decide +kernel
theorem dX12_filmOf_98 : decode cX12_filmOf 98 = .ok (.ishr, 1) := by decide +kernel
theorem dX12_filmOf_99 : decode cX12_filmOf 99 = .ok (.iadd, 1) := by decide +kernel
theorem dX12_filmOf_100 : decode cX12_filmOf 100 = .ok (.istore 4, 2) := by decide +kernel
theorem dX12_filmOf_102 : decode cX12_filmOf 102 = .ok (.iinc 5 1, 3) := by decide +kernel
theorem dX12_filmOf_105 : decode cX12_filmOf 105 = .ok (.goto (-99), 3) := by decide +kernel
theorem dX12_filmOf_108 : decode cX12_filmOf 108 = .ok (.iload 4, 2) := by decide +kernel
theorem dX12_filmOf_110 : decode cX12_filmOf 110 = .ok (.ireturn, 1) := by decide +kernel
theorem dX12_words_0 : decode cX12_words 0 = .ok (.iconst 0, 1) := by decide +kernel
theorem dX12_words_1 : decode cX12_words 1 = .ok (.istore 5, 2) := by decide +kernel
theorem dX12_words_3 : decode cX12_words 3 = .ok (.iconst 0, 1) := by decide +kernel
theorem dX12_words_4 : decode cX12_words 4 = .ok (.istore 6, 2) := by decide +kernel
theorem dX12_words_6 : decode cX12_words 6 = .ok (.iload 6, 2) := by decide +kernel
theorem dX12_words_8 : decode cX12_words 8 = .ok (.iconst 3, 1) := by decide +kernel
theorem dX12_words_9 : decode cX12_words 9 = .ok (.if_icmp .ge 76, 3) := by decide +kernel
theorem dX12_words_12 : decode cX12_words 12 = .ok (.aload_n 0, 1) := by decide +kernel
theorem dX12_words_13 : decode cX12_words 13 = .ok (.getfield 106, 3) := by decide +kernel
theorem dX12_words_16 : decode cX12_words 16 = .ok (.bipush 48, 2) := by decide +kernel
theorem dX12_words_18 : decode cX12_words 18 = .ok (.iload_n 3, 1) := by decide +kernel
theorem dX12_words_19 : decode cX12_words 19 = .ok (.imul, 1) := by decide +kernel
theorem dX12_words_20 : decode cX12_words 20 = .ok (.bipush 16, 2) := by decide +kernel
theorem dX12_words_22 : decode cX12_words 22 = .ok (.iload 6, 2) := by decide +kernel
theorem dX12_words_24 : decode cX12_words 24 = .ok (.imul, 1) := by decide +kernel
theorem dX12_words_25 : decode cX12_words 25 = .ok (.iadd, 1) := by decide +kernel
theorem dX12_words_26 : decode cX12_words 26 = .ok (.iload 4, 2) := by decide +kernel
theorem dX12_words_28 : decode cX12_words 28 = .ok (.iadd, 1) := by decide +kernel
theorem dX12_words_29 : decode cX12_words 29 = .ok (.iaload, 1) := by decide +kernel
theorem dX12_words_30 : decode cX12_words 30 = .ok (.aload_n 0, 1) := by decide +kernel
theorem dX12_words_31 : decode cX12_words 31 = .ok (.getfield 91, 3) := by decide +kernel
theorem dX12_words_34 : decode cX12_words 34 = .ok (.bipush 48, 2) := by decide +kernel
theorem dX12_words_36 : decode cX12_words 36 = .ok (.iload_n 1, 1) := by decide +kernel
theorem dX12_words_37 : decode cX12_words 37 = .ok (.bipush 40, 2) := by decide +kernel
theorem dX12_words_39 : decode cX12_words 39 = .ok (.iadd, 1) := by decide +kernel
theorem dX12_words_40 : decode cX12_words 40 = .ok (.imul, 1) := by decide +kernel
theorem dX12_words_41 : decode cX12_words 41 = .ok (.bipush 16, 2) := by decide +kernel
theorem dX12_words_43 : decode cX12_words 43 = .ok (.iload 6, 2) := by decide +kernel
theorem dX12_words_45 : decode cX12_words 45 = .ok (.imul, 1) := by decide +kernel
theorem dX12_words_46 : decode cX12_words 46 = .ok (.iadd, 1) := by decide +kernel
theorem dX12_words_47 : decode cX12_words 47 = .ok (.iload 4, 2) := by decide +kernel
theorem dX12_words_49 : decode cX12_words 49 = .ok (.iadd, 1) := by decide +kernel
theorem dX12_words_50 : decode cX12_words 50 = .ok (.iaload, 1) := by decide +kernel
theorem dX12_words_51 : decode cX12_words 51 = .ok (.iadd, 1) := by decide +kernel
theorem dX12_words_52 : decode cX12_words 52 = .ok (.istore 7, 2) := by decide +kernel
theorem dX12_words_54 : decode cX12_words 54 = .ok (.iload 6, 2) := by decide +kernel
theorem dX12_words_56 : decode cX12_words 56 = .ok (.iload_n 2, 1) := by decide +kernel
theorem dX12_words_57 : decode cX12_words 57 = .ok (.if_icmp .ne 15, 3) := by decide +kernel
theorem dX12_words_60 : decode cX12_words 60 = .ok (.aload_n 0, 1) := by decide +kernel
theorem dX12_words_61 : decode cX12_words 61 = .ok (.getfield 79, 3) := by decide +kernel
theorem dX12_words_64 : decode cX12_words 64 = .ok (.iconst 0, 1) := by decide +kernel
theorem dX12_words_65 : decode cX12_words 65 = .ok (.iload 7, 2) := by decide +kernel
theorem dX12_words_67 : decode cX12_words 67 = .ok (.i2l, 1) := by decide +kernel
theorem dX12_words_68 : decode cX12_words 68 = .ok (.lastore, 1) := by decide +kernel
theorem dX12_words_69 : decode cX12_words 69 = .ok (.goto 10, 3) := by decide +kernel
theorem dX12_words_72 : decode cX12_words 72 = .ok (.iload 5, 2) := by decide +kernel
theorem dX12_words_74 : decode cX12_words 74 = .ok (.iload 7, 2) := by decide +kernel
theorem dX12_words_76 : decode cX12_words 76 = .ok (.iadd, 1) := by decide +kernel
theorem dX12_words_77 : decode cX12_words 77 = .ok (.istore 5, 2) := by decide +kernel
theorem dX12_words_79 : decode cX12_words 79 = .ok (.iinc 6 1, 3) := by decide +kernel
theorem dX12_words_82 : decode cX12_words 82 = .ok (.goto (-76), 3) := by decide +kernel
theorem dX12_words_85 : decode cX12_words 85 = .ok (.aload_n 0, 1) := by decide +kernel
theorem dX12_words_86 : decode cX12_words 86 = .ok (.getfield 79, 3) := by decide +kernel
theorem dX12_words_89 : decode cX12_words 89 = .ok (.iconst 1, 1) := by decide +kernel
theorem dX12_words_90 : decode cX12_words 90 = .ok (.iload 5, 2) := by decide +kernel
theorem dX12_words_92 : decode cX12_words 92 = .ok (.i2l, 1) := by decide +kernel
theorem dX12_words_93 : decode cX12_words 93 = .ok (.lastore, 1) := by decide +kernel
theorem dX12_words_94 : decode cX12_words 94 = .ok (.aload_n 0, 1) := by decide +kernel
theorem dX12_words_95 : decode cX12_words 95 = .ok (.getfield 79, 3) := by decide +kernel
theorem dX12_words_98 : decode cX12_words 98 = .ok (.iconst 2, 1) := by decide +kernel
theorem dX12_words_99 : decode cX12_words 99 = .ok (.iload_n 3, 1) := by decide +kernel
theorem dX12_words_100 : decode cX12_words 100 = .ok (.iconst 1, 1) := by decide +kernel
theorem dX12_words_101 : decode cX12_words 101 = .ok (.if_icmp .ne 33, 3) := by decide +kernel
theorem dX12_words_104 : decode cX12_words 104 = .ok (.aload_n 0, 1) := by decide +kernel
theorem dX12_words_105 : decode cX12_words 105 = .ok (.getfield 109, 3) := by decide +kernel
theorem dX12_words_108 : decode cX12_words 108 = .ok (.bipush 32, 2) := by decide +kernel
theorem dX12_words_110 : decode cX12_words 110 = .ok (.iload 4, 2) := by decide +kernel
theorem dX12_words_112 : decode cX12_words 112 = .ok (.iadd, 1) := by decide +kernel
theorem dX12_words_113 : decode cX12_words 113 = .ok (.iaload, 1) := by decide +kernel
theorem dX12_words_114 : decode cX12_words 114 = .ok (.aload_n 0, 1) := by decide +kernel
theorem dX12_words_115 : decode cX12_words 115 = .ok (.getfield 94, 3) := by decide +kernel
theorem dX12_words_118 : decode cX12_words 118 = .ok (.bipush 32, 2) := by decide +kernel
theorem dX12_words_120 : decode cX12_words 120 = .ok (.iload_n 1, 1) := by decide +kernel
theorem dX12_words_121 : decode cX12_words 121 = .ok (.bipush 40, 2) := by decide +kernel
theorem dX12_words_123 : decode cX12_words 123 = .ok (.iadd, 1) := by decide +kernel
theorem dX12_words_124 : decode cX12_words 124 = .ok (.imul, 1) := by decide +kernel
theorem dX12_words_125 : decode cX12_words 125 = .ok (.iload 4, 2) := by decide +kernel
theorem dX12_words_127 : decode cX12_words 127 = .ok (.iadd, 1) := by decide +kernel
theorem dX12_words_128 : decode cX12_words 128 = .ok (.iaload, 1) := by decide +kernel
theorem dX12_words_129 : decode cX12_words 129 = .ok (.iadd, 1) := by decide +kernel
theorem dX12_words_130 : decode cX12_words 130 = .ok (.i2l, 1) := by decide +kernel
theorem dX12_words_131 : decode cX12_words 131 = .ok (.goto 4, 3) := by decide +kernel
theorem dX12_words_134 : decode cX12_words 134 = .ok (.lconst 0, 1) := by decide +kernel
theorem dX12_words_135 : decode cX12_words 135 = .ok (.lastore, 1) := by decide +kernel
theorem dX12_words_136 : decode cX12_words 136 = .ok (.aload_n 0, 1) := by decide +kernel
theorem dX12_words_137 : decode cX12_words 137 = .ok (.getfield 79, 3) := by decide +kernel
theorem dX12_words_140 : decode cX12_words 140 = .ok (.iconst 3, 1) := by decide +kernel
theorem dX12_words_141 : decode cX12_words 141 = .ok (.aload_n 0, 1) := by decide +kernel
theorem dX12_words_142 : decode cX12_words 142 = .ok (.getfield 109, 3) := by decide +kernel
theorem dX12_words_145 : decode cX12_words 145 = .ok (.bipush 32, 2) := by decide +kernel
theorem dX12_words_147 : decode cX12_words 147 = .ok (.iload_n 3, 1) := by decide +kernel
theorem dX12_words_148 : decode cX12_words 148 = .ok (.imul, 1) := by decide +kernel
theorem dX12_words_149 : decode cX12_words 149 = .ok (.bipush 16, 2) := by decide +kernel
theorem dX12_words_151 : decode cX12_words 151 = .ok (.iload_n 3, 1) := by decide +kernel
theorem dX12_words_152 : decode cX12_words 152 = .ok (.imul, 1) := by decide +kernel
theorem dX12_words_153 : decode cX12_words 153 = .ok (.iadd, 1) := by decide +kernel
theorem dX12_words_154 : decode cX12_words 154 = .ok (.iload 4, 2) := by decide +kernel
theorem dX12_words_156 : decode cX12_words 156 = .ok (.iadd, 1) := by decide +kernel
theorem dX12_words_157 : decode cX12_words 157 = .ok (.iaload, 1) := by decide +kernel
theorem dX12_words_158 : decode cX12_words 158 = .ok (.aload_n 0, 1) := by decide +kernel
theorem dX12_words_159 : decode cX12_words 159 = .ok (.getfield 94, 3) := by decide +kernel
theorem dX12_words_162 : decode cX12_words 162 = .ok (.bipush 32, 2) := by decide +kernel
theorem dX12_words_164 : decode cX12_words 164 = .ok (.iload_n 1, 1) := by decide +kernel
theorem dX12_words_165 : decode cX12_words 165 = .ok (.bipush 40, 2) := by decide +kernel
theorem dX12_words_167 : decode cX12_words 167 = .ok (.iadd, 1) := by decide +kernel
theorem dX12_words_168 : decode cX12_words 168 = .ok (.imul, 1) := by decide +kernel
theorem dX12_words_169 : decode cX12_words 169 = .ok (.bipush 16, 2) := by decide +kernel
theorem dX12_words_171 : decode cX12_words 171 = .ok (.iload_n 3, 1) := by decide +kernel
theorem dX12_words_172 : decode cX12_words 172 = .ok (.imul, 1) := by decide +kernel
theorem dX12_words_173 : decode cX12_words 173 = .ok (.iadd, 1) := by decide +kernel
theorem dX12_words_174 : decode cX12_words 174 = .ok (.iload 4, 2) := by decide +kernel
theorem dX12_words_176 : decode cX12_words 176 = .ok (.iadd, 1) := by decide +kernel
theorem dX12_words_177 : decode cX12_words 177 = .ok (.iaload, 1) := by decide +kernel
theorem dX12_words_178 : decode cX12_words 178 = .ok (.iadd, 1) := by decide +kernel
theorem dX12_words_179 : decode cX12_words 179 = .ok (.i2l, 1) := by decide +kernel
theorem dX12_words_180 : decode cX12_words 180 = .ok (.lastore, 1) := by decide +kernel
theorem dX12_words_181 : decode cX12_words 181 = .ok (.aload_n 0, 1) := by decide +kernel
theorem dX12_words_182 : decode cX12_words 182 = .ok (.getfield 79, 3) := by decide +kernel
theorem dX12_words_185 : decode cX12_words 185 = .ok (.iconst 4, 1) := by decide +kernel
theorem dX12_words_186 : decode cX12_words 186 = .ok (.aload_n 0, 1) := by decide +kernel
theorem dX12_words_187 : decode cX12_words 187 = .ok (.getfield 115, 3) := by decide +kernel
theorem dX12_words_190 : decode cX12_words 190 = .ok (.iload 4, 2) := by decide +kernel
theorem dX12_words_192 : decode cX12_words 192 = .ok (.iaload, 1) := by decide +kernel
theorem dX12_words_193 : decode cX12_words 193 = .ok (.aload_n 0, 1) := by decide +kernel
theorem dX12_words_194 : decode cX12_words 194 = .ok (.getfield 97, 3) := by decide +kernel
theorem dX12_words_197 : decode cX12_words 197 = .ok (.bipush 32, 2) := by decide +kernel
theorem dX12_words_199 : decode cX12_words 199 = .ok (.iload_n 1, 1) := by decide +kernel
theorem dX12_words_200 : decode cX12_words 200 = .ok (.bipush 40, 2) := by decide +kernel
theorem dX12_words_202 : decode cX12_words 202 = .ok (.iadd, 1) := by decide +kernel
theorem dX12_words_203 : decode cX12_words 203 = .ok (.imul, 1) := by decide +kernel
theorem dX12_words_204 : decode cX12_words 204 = .ok (.iload 4, 2) := by decide +kernel
theorem dX12_words_206 : decode cX12_words 206 = .ok (.iadd, 1) := by decide +kernel
theorem dX12_words_207 : decode cX12_words 207 = .ok (.iaload, 1) := by decide +kernel
theorem dX12_words_208 : decode cX12_words 208 = .ok (.iadd, 1) := by decide +kernel
theorem dX12_words_209 : decode cX12_words 209 = .ok (.i2l, 1) := by decide +kernel
theorem dX12_words_210 : decode cX12_words 210 = .ok (.lastore, 1) := by decide +kernel
theorem dX12_words_211 : decode cX12_words 211 = .ok (.aload_n 0, 1) := by decide +kernel
theorem dX12_words_212 : decode cX12_words 212 = .ok (.getfield 79, 3) := by decide +kernel
theorem dX12_words_215 : decode cX12_words 215 = .ok (.iconst 5, 1) := by decide +kernel
theorem dX12_words_216 : decode cX12_words 216 = .ok (.aload_n 0, 1) := by decide +kernel
theorem dX12_words_217 : decode cX12_words 217 = .ok (.getfield 115, 3) := by decide +kernel
theorem dX12_words_220 : decode cX12_words 220 = .ok (.bipush 16, 2) := by decide +kernel
theorem dX12_words_222 : decode cX12_words 222 = .ok (.iload 4, 2) := by decide +kernel
theorem dX12_words_224 : decode cX12_words 224 = .ok (.iadd, 1) := by decide +kernel
theorem dX12_words_225 : decode cX12_words 225 = .ok (.iaload, 1) := by decide +kernel
theorem dX12_words_226 : decode cX12_words 226 = .ok (.aload_n 0, 1) := by decide +kernel
theorem dX12_words_227 : decode cX12_words 227 = .ok (.getfield 97, 3) := by decide +kernel
theorem dX12_words_230 : decode cX12_words 230 = .ok (.bipush 32, 2) := by decide +kernel
theorem dX12_words_232 : decode cX12_words 232 = .ok (.iload_n 1, 1) := by decide +kernel
theorem dX12_words_233 : decode cX12_words 233 = .ok (.bipush 40, 2) := by decide +kernel
theorem dX12_words_235 : decode cX12_words 235 = .ok (.iadd, 1) := by decide +kernel
theorem dX12_words_236 : decode cX12_words 236 = .ok (.imul, 1) := by decide +kernel
theorem dX12_words_237 : decode cX12_words 237 = .ok (.bipush 16, 2) := by decide +kernel
theorem dX12_words_239 : decode cX12_words 239 = .ok (.iadd, 1) := by decide +kernel
theorem dX12_words_240 : decode cX12_words 240 = .ok (.iload 4, 2) := by decide +kernel
theorem dX12_words_242 : decode cX12_words 242 = .ok (.iadd, 1) := by decide +kernel
theorem dX12_words_243 : decode cX12_words 243 = .ok (.iaload, 1) := by decide +kernel
theorem dX12_words_244 : decode cX12_words 244 = .ok (.iadd, 1) := by decide +kernel
theorem dX12_words_245 : decode cX12_words 245 = .ok (.i2l, 1) := by decide +kernel
theorem dX12_words_246 : decode cX12_words 246 = .ok (.lastore, 1) := by decide +kernel
theorem dX12_words_247 : decode cX12_words 247 = .ok (.aload_n 0, 1) := by decide +kernel
theorem dX12_words_248 : decode cX12_words 248 = .ok (.getfield 79, 3) := by decide +kernel
theorem dX12_words_251 : decode cX12_words 251 = .ok (.bipush 6, 2) := by decide +kernel
theorem dX12_words_253 : decode cX12_words 253 = .ok (.aload_n 0, 1) := by decide +kernel
theorem dX12_words_254 : decode cX12_words 254 = .ok (.getfield 112, 3) := by decide +kernel
theorem dX12_words_257 : decode cX12_words 257 = .ok (.bipush 16, 2) := by decide +kernel
theorem dX12_words_259 : decode cX12_words 259 = .ok (.iload_n 3, 1) := by decide +kernel
theorem dX12_words_260 : decode cX12_words 260 = .ok (.imul, 1) := by decide +kernel
theorem dX12_words_261 : decode cX12_words 261 = .ok (.iload 4, 2) := by decide +kernel
theorem dX12_words_263 : decode cX12_words 263 = .ok (.iadd, 1) := by decide +kernel
theorem dX12_words_264 : decode cX12_words 264 = .ok (.iaload, 1) := by decide +kernel
theorem dX12_words_265 : decode cX12_words 265 = .ok (.i2l, 1) := by decide +kernel
theorem dX12_words_266 : decode cX12_words 266 = .ok (.lastore, 1) := by decide +kernel
theorem dX12_words_267 : decode cX12_words 267 = .ok (.aload_n 0, 1) := by decide +kernel
theorem dX12_words_268 : decode cX12_words 268 = .ok (.getfield 79, 3) := by decide +kernel
theorem dX12_words_271 : decode cX12_words 271 = .ok (.bipush 7, 2) := by decide +kernel
theorem dX12_words_273 : decode cX12_words 273 = .ok (.aload_n 0, 1) := by decide +kernel
theorem dX12_words_274 : decode cX12_words 274 = .ok (.getfield 79, 3) := by decide +kernel
theorem dX12_words_277 : decode cX12_words 277 = .ok (.iconst 4, 1) := by decide +kernel
theorem dX12_words_278 : decode cX12_words 278 = .ok (.laload, 1) := by decide +kernel
theorem dX12_words_279 : decode cX12_words 279 = .ok (.aload_n 0, 1) := by decide +kernel
theorem dX12_words_280 : decode cX12_words 280 = .ok (.getfield 79, 3) := by decide +kernel
theorem dX12_words_283 : decode cX12_words 283 = .ok (.iconst 5, 1) := by decide +kernel
theorem dX12_words_284 : decode cX12_words 284 = .ok (.laload, 1) := by decide +kernel
theorem dX12_words_285 : decode cX12_words 285 = .ok (.ladd, 1) := by decide +kernel
theorem dX12_words_286 : decode cX12_words 286 = .ok (.lastore, 1) := by decide +kernel
theorem dX12_words_287 : decode cX12_words 287 = .ok (.aload_n 0, 1) := by decide +kernel
theorem dX12_words_288 : decode cX12_words 288 = .ok (.getfield 79, 3) := by decide +kernel
theorem dX12_words_291 : decode cX12_words 291 = .ok (.bipush 8, 2) := by decide +kernel
theorem dX12_words_293 : decode cX12_words 293 = .ok (.aload_n 0, 1) := by decide +kernel
theorem dX12_words_294 : decode cX12_words 294 = .ok (.iload_n 1, 1) := by decide +kernel
theorem dX12_words_295 : decode cX12_words 295 = .ok (.iload 4, 2) := by decide +kernel
theorem dX12_words_297 : decode cX12_words 297 = .ok (.invokevirtual 407, 3) := by decide +kernel
theorem dX12_words_300 : decode cX12_words 300 = .ok (.ifCond .le 7, 3) := by decide +kernel
theorem dX12_words_303 : decode cX12_words 303 = .ok (.lconst 0, 1) := by decide +kernel
theorem dX12_words_304 : decode cX12_words 304 = .ok (.goto 11, 3) := by decide +kernel
theorem dX12_words_307 : decode cX12_words 307 = .ok (.aload_n 0, 1) := by decide +kernel
theorem dX12_words_308 : decode cX12_words 308 = .ok (.getfield 118, 3) := by decide +kernel
theorem dX12_words_311 : decode cX12_words 311 = .ok (.iload 4, 2) := by decide +kernel
theorem dX12_words_313 : decode cX12_words 313 = .ok (.iaload, 1) := by decide +kernel
theorem dX12_words_314 : decode cX12_words 314 = .ok (.i2l, 1) := by decide +kernel
theorem dX12_words_315 : decode cX12_words 315 = .ok (.lastore, 1) := by decide +kernel
theorem dX12_words_316 : decode cX12_words 316 = .ok (.aload_n 0, 1) := by decide +kernel
theorem dX12_words_317 : decode cX12_words 317 = .ok (.getfield 79, 3) := by decide +kernel
theorem dX12_words_320 : decode cX12_words 320 = .ok (.bipush 9, 2) := by decide +kernel
theorem dX12_words_322 : decode cX12_words 322 = .ok (.aload_n 0, 1) := by decide +kernel
theorem dX12_words_323 : decode cX12_words 323 = .ok (.getfield 121, 3) := by decide +kernel
theorem dX12_words_326 : decode cX12_words 326 = .ok (.iload 4, 2) := by decide +kernel
theorem dX12_words_328 : decode cX12_words 328 = .ok (.iaload, 1) := by decide +kernel
theorem dX12_words_329 : decode cX12_words 329 = .ok (.i2l, 1) := by decide +kernel
theorem dX12_words_330 : decode cX12_words 330 = .ok (.lastore, 1) := by decide +kernel
theorem dX12_words_331 : decode cX12_words 331 = .ok (.aload_n 0, 1) := by decide +kernel
theorem dX12_words_332 : decode cX12_words 332 = .ok (.getfield 79, 3) := by decide +kernel
theorem dX12_words_335 : decode cX12_words 335 = .ok (.bipush 10, 2) := by decide +kernel
theorem dX12_words_337 : decode cX12_words 337 = .ok (.aload_n 0, 1) := by decide +kernel
theorem dX12_words_338 : decode cX12_words 338 = .ok (.getfield 124, 3) := by decide +kernel
theorem dX12_words_341 : decode cX12_words 341 = .ok (.iload 4, 2) := by decide +kernel
theorem dX12_words_343 : decode cX12_words 343 = .ok (.iaload, 1) := by decide +kernel
theorem dX12_words_344 : decode cX12_words 344 = .ok (.i2l, 1) := by decide +kernel
theorem dX12_words_345 : decode cX12_words 345 = .ok (.lastore, 1) := by decide +kernel
theorem dX12_words_346 : decode cX12_words 346 = .ok (.aload_n 0, 1) := by decide +kernel
theorem dX12_words_347 : decode cX12_words 347 = .ok (.getfield 79, 3) := by decide +kernel
theorem dX12_words_350 : decode cX12_words 350 = .ok (.bipush 11, 2) := by decide +kernel
theorem dX12_words_352 : decode cX12_words 352 = .ok (.aload_n 0, 1) := by decide +kernel
theorem dX12_words_353 : decode cX12_words 353 = .ok (.getfield 127, 3) := by decide +kernel
theorem dX12_words_356 : decode cX12_words 356 = .ok (.iload 4, 2) := by decide +kernel
theorem dX12_words_358 : decode cX12_words 358 = .ok (.iaload, 1) := by decide +kernel
theorem dX12_words_359 : decode cX12_words 359 = .ok (.i2l, 1) := by decide +kernel
theorem dX12_words_360 : decode cX12_words 360 = .ok (.lastore, 1) := by decide +kernel
theorem dX12_words_361 : decode cX12_words 361 = .ok (.aload_n 0, 1) := by decide +kernel
theorem dX12_words_362 : decode cX12_words 362 = .ok (.getfield 79, 3) := by decide +kernel
theorem dX12_words_365 : decode cX12_words 365 = .ok (.bipush 12, 2) := by decide +kernel
theorem dX12_words_367 : decode cX12_words 367 = .ok (.aload_n 0, 1) := by decide +kernel
theorem dX12_words_368 : decode cX12_words 368 = .ok (.getfield 16, 3) := by decide +kernel
theorem dX12_words_371 : decode cX12_words 371 = .ok (.iload 4, 2) := by decide +kernel
theorem dX12_words_373 : decode cX12_words 373 = .ok (.laload, 1) := by decide +kernel
theorem dX12_words_374 : decode cX12_words 374 = .ok (.invokestatic 162, 3) := by decide +kernel
theorem dX12_words_377 : decode cX12_words 377 = .ok (.i2l, 1) := by decide +kernel
theorem dX12_words_378 : decode cX12_words 378 = .ok (.lastore, 1) := by decide +kernel
theorem dX12_words_379 : decode cX12_words 379 = .ok (.aload_n 0, 1) := by decide +kernel
theorem dX12_words_380 : decode cX12_words 380 = .ok (.getfield 79, 3) := by decide +kernel
theorem dX12_words_383 : decode cX12_words 383 = .ok (.bipush 13, 2) := by decide +kernel
theorem dX12_words_385 : decode cX12_words 385 = .ok (.iload_n 1, 1) := by decide +kernel
theorem dX12_words_386 : decode cX12_words 386 = .ok (.i2l, 1) := by decide +kernel
theorem dX12_words_387 : decode cX12_words 387 = .ok (.lastore, 1) := by decide +kernel
theorem dX12_words_388 : decode cX12_words 388 = .ok (.return_, 1) := by decide +kernel
theorem dX12_may_0 : decode cX12_may 0 = .ok (.iload_n 1, 1) := by decide +kernel
theorem dX12_may_1 : decode cX12_may 1 = .ok (.aload_n 0, 1) := by decide +kernel
theorem dX12_may_2 : decode cX12_may 2 = .ok (.getfield 7, 3) := by decide +kernel
theorem dX12_may_5 : decode cX12_may 5 = .ok (.sipush 1900, 3) := by decide +kernel
theorem dX12_may_8 : decode cX12_may 8 = .ok (.iload 4, 2) := by decide +kernel
theorem dX12_may_10 : decode cX12_may 10 = .ok (.iadd, 1) := by decide +kernel
theorem dX12_may_11 : decode cX12_may 11 = .ok (.iaload, 1) := by decide +kernel
theorem dX12_may_12 : decode cX12_may 12 = .ok (.if_icmp .lt 58, 3) := by decide +kernel
theorem dX12_may_15 : decode cX12_may 15 = .ok (.aload_n 0, 1) := by decide +kernel
theorem dX12_may_16 : decode cX12_may 16 = .ok (.getfield 7, 3) := by decide +kernel
theorem dX12_may_19 : decode cX12_may 19 = .ok (.bipush 30, 2) := by decide +kernel
theorem dX12_may_21 : decode cX12_may 21 = .ok (.iload 4, 2) := by decide +kernel
theorem dX12_may_23 : decode cX12_may 23 = .ok (.iadd, 1) := by decide +kernel
theorem dX12_may_24 : decode cX12_may 24 = .ok (.iaload, 1) := by decide +kernel
theorem dX12_may_25 : decode cX12_may 25 = .ok (.iload_n 3, 1) := by decide +kernel
theorem dX12_may_26 : decode cX12_may 26 = .ok (.ishr, 1) := by decide +kernel
theorem dX12_may_27 : decode cX12_may 27 = .ok (.iconst 1, 1) := by decide +kernel
theorem dX12_may_28 : decode cX12_may 28 = .ok (.iand, 1) := by decide +kernel
theorem dX12_may_29 : decode cX12_may 29 = .ok (.iconst 1, 1) := by decide +kernel
theorem dX12_may_30 : decode cX12_may 30 = .ok (.if_icmp .ne 40, 3) := by decide +kernel
theorem dX12_may_33 : decode cX12_may 33 = .ok (.aload_n 0, 1) := by decide +kernel
theorem dX12_may_34 : decode cX12_may 34 = .ok (.getfield 438, 3) := by decide +kernel
theorem dX12_may_37 : decode cX12_may 37 = .ok (.ifCond .eq 16, 3) := by decide +kernel
theorem dX12_may_40 : decode cX12_may 40 = .ok (.aload_n 0, 1) := by decide +kernel
theorem dX12_may_41 : decode cX12_may 41 = .ok (.getfield 438, 3) := by decide +kernel
theorem dX12_may_44 : decode cX12_may 44 = .ok (.iload 4, 2) := by decide +kernel
theorem dX12_may_46 : decode cX12_may 46 = .ok (.ishr, 1) := by decide +kernel
theorem dX12_may_47 : decode cX12_may 47 = .ok (.iconst 1, 1) := by decide +kernel
theorem dX12_may_48 : decode cX12_may 48 = .ok (.iand, 1) := by decide +kernel
theorem dX12_may_49 : decode cX12_may 49 = .ok (.iconst 1, 1) := by decide +kernel
theorem dX12_may_50 : decode cX12_may 50 = .ok (.if_icmp .ne 20, 3) := by decide +kernel
theorem dX12_may_53 : decode cX12_may 53 = .ok (.aload_n 0, 1) := by decide +kernel
theorem dX12_may_54 : decode cX12_may 54 = .ok (.aload_n 0, 1) := by decide +kernel
theorem dX12_may_55 : decode cX12_may 55 = .ok (.getfield 103, 3) := by decide +kernel
theorem dX12_may_58 : decode cX12_may 58 = .ok (.iload_n 2, 1) := by decide +kernel
theorem dX12_may_59 : decode cX12_may 59 = .ok (.iaload, 1) := by decide +kernel
theorem dX12_may_60 : decode cX12_may 60 = .ok (.invokevirtual 441, 3) := by decide +kernel
theorem dX12_may_63 : decode cX12_may 63 = .ok (.ifCond .ne 7, 3) := by decide +kernel
theorem dX12_may_66 : decode cX12_may 66 = .ok (.iconst 1, 1) := by decide +kernel
theorem dX12_may_67 : decode cX12_may 67 = .ok (.goto 4, 3) := by decide +kernel
theorem dX12_may_70 : decode cX12_may 70 = .ok (.iconst 0, 1) := by decide +kernel
theorem dX12_may_71 : decode cX12_may 71 = .ok (.ireturn, 1) := by decide +kernel
theorem dX12_chooses_0 : decode cX12_chooses 0 = .ok (.aload_n 0, 1) := by decide +kernel
theorem dX12_chooses_1 : decode cX12_chooses 1 = .ok (.iconst (-1), 1) := by decide +kernel
theorem dX12_chooses_2 : decode cX12_chooses 2 = .ok (.putfield 444, 3) := by decide +kernel
theorem dX12_chooses_5 : decode cX12_chooses 5 = .ok (.aload_n 0, 1) := by decide +kernel
theorem dX12_chooses_6 : decode cX12_chooses 6 = .ok (.lconst 0, 1) := by decide +kernel
theorem dX12_chooses_7 : decode cX12_chooses 7 = .ok (.putfield 447, 3) := by decide +kernel
theorem dX12_chooses_10 : decode cX12_chooses 10 = .ok (.iconst 0, 1) := by decide +kernel
theorem dX12_chooses_11 : decode cX12_chooses 11 = .ok (.istore 5, 2) := by decide +kernel
theorem dX12_chooses_13 : decode cX12_chooses 13 = .ok (.iload 5, 2) := by decide +kernel
theorem dX12_chooses_15 : decode cX12_chooses 15 = .ok (.aload_n 0, 1) := by decide +kernel
theorem dX12_chooses_16 : decode cX12_chooses 16 = .ok (.getfield 7, 3) := by decide +kernel
theorem dX12_chooses_19 : decode cX12_chooses 19 = .ok (.iconst 1, 1) := by decide +kernel
theorem dX12_chooses_20 : decode cX12_chooses 20 = .ok (.iaload, 1) := by decide +kernel
theorem dX12_chooses_21 : decode cX12_chooses 21 = .ok (.if_icmp .ge 83, 3) := by decide +kernel
theorem dX12_chooses_24 : decode cX12_chooses 24 = .ok (.aload_n 0, 1) := by decide +kernel
theorem dX12_chooses_25 : decode cX12_chooses 25 = .ok (.getfield 103, 3) := by decide +kernel
theorem dX12_chooses_28 : decode cX12_chooses 28 = .ok (.iload_n 3, 1) := by decide +kernel
theorem dX12_chooses_29 : decode cX12_chooses 29 = .ok (.iaload, 1) := by decide +kernel
theorem dX12_chooses_30 : decode cX12_chooses 30 = .ok (.iconst (-1), 1) := by decide +kernel
theorem dX12_chooses_31 : decode cX12_chooses 31 = .ok (.if_icmp .eq 73, 3) := by decide +kernel
theorem dX12_chooses_34 : decode cX12_chooses 34 = .ok (.aload_n 0, 1) := by decide +kernel
theorem dX12_chooses_35 : decode cX12_chooses 35 = .ok (.iload_n 1, 1) := by decide +kernel
theorem dX12_chooses_36 : decode cX12_chooses 36 = .ok (.iload_n 2, 1) := by decide +kernel
theorem dX12_chooses_37 : decode cX12_chooses 37 = .ok (.iload_n 3, 1) := by decide +kernel
theorem dX12_chooses_38 : decode cX12_chooses 38 = .ok (.iload 5, 2) := by decide +kernel
theorem dX12_chooses_40 : decode cX12_chooses 40 = .ok (.invokevirtual 451, 3) := by decide +kernel
theorem dX12_chooses_43 : decode cX12_chooses 43 = .ok (.aload_n 0, 1) := by decide +kernel
theorem dX12_chooses_44 : decode cX12_chooses 44 = .ok (.iload_n 1, 1) := by decide +kernel
theorem dX12_chooses_45 : decode cX12_chooses 45 = .ok (.iload_n 3, 1) := by decide +kernel
theorem dX12_chooses_46 : decode cX12_chooses 46 = .ok (.iload 4, 2) := by decide +kernel
theorem dX12_chooses_48 : decode cX12_chooses 48 = .ok (.iload 5, 2) := by decide +kernel
theorem dX12_chooses_50 : decode cX12_chooses 50 = .ok (.invokevirtual 454, 3) := by decide +kernel
theorem dX12_chooses_53 : decode cX12_chooses 53 = .ok (.ifCond .eq 45, 3) := by decide +kernel
theorem dX12_chooses_56 : decode cX12_chooses 56 = .ok (.aload_n 0, 1) := by decide +kernel
theorem dX12_chooses_57 : decode cX12_chooses 57 = .ok (.aload_n 0, 1) := by decide +kernel
theorem dX12_chooses_58 : decode cX12_chooses 58 = .ok (.getfield 103, 3) := by decide +kernel
theorem dX12_chooses_61 : decode cX12_chooses 61 = .ok (.iload_n 3, 1) := by decide +kernel
theorem dX12_chooses_62 : decode cX12_chooses 62 = .ok (.iaload, 1) := by decide +kernel
theorem dX12_chooses_63 : decode cX12_chooses 63 = .ok (.invokevirtual 458, 3) := by decide +kernel
theorem dX12_chooses_66 : decode cX12_chooses 66 = .ok (.lstore 6, 2) := by decide +kernel
theorem dX12_chooses_68 : decode cX12_chooses 68 = .ok (.aload_n 0, 1) := by decide +kernel
theorem dX12_chooses_69 : decode cX12_chooses 69 = .ok (.getfield 444, 3) := by decide +kernel
theorem dX12_chooses_72 : decode cX12_chooses 72 = .ok (.iconst (-1), 1) := by decide +kernel
theorem dX12_chooses_73 : decode cX12_chooses 73 = .ok (.if_icmp .eq 13, 3) := by decide +kernel
theorem dX12_chooses_76 : decode cX12_chooses 76 = .ok (.lload 6, 2) := by decide +kernel
theorem dX12_chooses_78 : decode cX12_chooses 78 = .ok (.aload_n 0, 1) := by decide +kernel
theorem dX12_chooses_79 : decode cX12_chooses 79 = .ok (.getfield 447, 3) := by decide +kernel
theorem dX12_chooses_82 : decode cX12_chooses 82 = .ok (.lcmp, 1) := by decide +kernel
theorem dX12_chooses_83 : decode cX12_chooses 83 = .ok (.ifCond .le 15, 3) := by decide +kernel
theorem dX12_chooses_86 : decode cX12_chooses 86 = .ok (.aload_n 0, 1) := by decide +kernel
theorem dX12_chooses_87 : decode cX12_chooses 87 = .ok (.iload 5, 2) := by decide +kernel
theorem dX12_chooses_89 : decode cX12_chooses 89 = .ok (.putfield 444, 3) := by decide +kernel
theorem dX12_chooses_92 : decode cX12_chooses 92 = .ok (.aload_n 0, 1) := by decide +kernel
theorem dX12_chooses_93 : decode cX12_chooses 93 = .ok (.lload 6, 2) := by decide +kernel
theorem dX12_chooses_95 : decode cX12_chooses 95 = .ok (.putfield 447, 3) := by decide +kernel
theorem dX12_chooses_98 : decode cX12_chooses 98 = .ok (.iinc 5 1, 3) := by decide +kernel
theorem dX12_chooses_101 : decode cX12_chooses 101 = .ok (.goto (-88), 3) := by decide +kernel
theorem dX12_chooses_104 : decode cX12_chooses 104 = .ok (.return_, 1) := by decide +kernel
theorem dX12_rocks_0 : decode cX12_rocks 0 = .ok (.aload_n 0, 1) := by decide +kernel
theorem dX12_rocks_1 : decode cX12_rocks 1 = .ok (.iload_n 1, 1) := by decide +kernel
theorem dX12_rocks_2 : decode cX12_rocks 2 = .ok (.iload_n 2, 1) := by decide +kernel
theorem dX12_rocks_3 : decode cX12_rocks 3 = .ok (.iload_n 3, 1) := by decide +kernel
theorem dX12_rocks_4 : decode cX12_rocks 4 = .ok (.iload 4, 2) := by decide +kernel
theorem dX12_rocks_6 : decode cX12_rocks 6 = .ok (.invokevirtual 461, 3) := by decide +kernel
theorem dX12_rocks_9 : decode cX12_rocks 9 = .ok (.aload_n 0, 1) := by decide +kernel
theorem dX12_rocks_10 : decode cX12_rocks 10 = .ok (.getfield 444, 3) := by decide +kernel
theorem dX12_rocks_13 : decode cX12_rocks 13 = .ok (.iconst (-1), 1) := by decide +kernel
theorem dX12_rocks_14 : decode cX12_rocks 14 = .ok (.if_icmp .ne 16, 3) := by decide +kernel
theorem dX12_rocks_17 : decode cX12_rocks 17 = .ok (.aload_n 0, 1) := by decide +kernel
theorem dX12_rocks_18 : decode cX12_rocks 18 = .ok (.getfield 100, 3) := by decide +kernel
theorem dX12_rocks_21 : decode cX12_rocks 21 = .ok (.iload_n 1, 1) := by decide +kernel
theorem dX12_rocks_22 : decode cX12_rocks 22 = .ok (.dup2, 1) := by decide +kernel
theorem dX12_rocks_23 : decode cX12_rocks 23 = .ok (.iaload, 1) := by decide +kernel
theorem dX12_rocks_24 : decode cX12_rocks 24 = .ok (.iconst 1, 1) := by decide +kernel
theorem dX12_rocks_25 : decode cX12_rocks 25 = .ok (.iadd, 1) := by decide +kernel
theorem dX12_rocks_26 : decode cX12_rocks 26 = .ok (.iastore, 1) := by decide +kernel
theorem dX12_rocks_27 : decode cX12_rocks 27 = .ok (.goto 17, 3) := by decide +kernel
theorem dX12_rocks_30 : decode cX12_rocks 30 = .ok (.aload_n 0, 1) := by decide +kernel
theorem dX12_rocks_31 : decode cX12_rocks 31 = .ok (.iload_n 1, 1) := by decide +kernel
theorem dX12_rocks_32 : decode cX12_rocks 32 = .ok (.iload_n 2, 1) := by decide +kernel
theorem dX12_rocks_33 : decode cX12_rocks 33 = .ok (.iload_n 3, 1) := by decide +kernel
theorem dX12_rocks_34 : decode cX12_rocks 34 = .ok (.iload 4, 2) := by decide +kernel
theorem dX12_rocks_36 : decode cX12_rocks 36 = .ok (.aload_n 0, 1) := by decide +kernel
theorem dX12_rocks_37 : decode cX12_rocks 37 = .ok (.getfield 444, 3) := by decide +kernel
theorem dX12_rocks_40 : decode cX12_rocks 40 = .ok (.iconst 1, 1) := by decide +kernel
theorem dX12_rocks_41 : decode cX12_rocks 41 = .ok (.invokevirtual 416, 3) := by decide +kernel
theorem dX12_rocks_44 : decode cX12_rocks 44 = .ok (.return_, 1) := by decide +kernel
theorem dX12_runsAll_0 : decode cX12_runsAll 0 = .ok (.aload_n 0, 1) := by decide +kernel
theorem dX12_runsAll_1 : decode cX12_runsAll 1 = .ok (.aload_n 0, 1) := by decide +kernel
theorem dX12_runsAll_2 : decode cX12_runsAll 2 = .ok (.getfield 7, 3) := by decide +kernel
theorem dX12_runsAll_5 : decode cX12_runsAll 5 = .ok (.iconst 0, 1) := by decide +kernel
theorem dX12_runsAll_6 : decode cX12_runsAll 6 = .ok (.iaload, 1) := by decide +kernel
theorem dX12_runsAll_7 : decode cX12_runsAll 7 = .ok (.iconst (-1), 1) := by decide +kernel
theorem dX12_runsAll_8 : decode cX12_runsAll 8 = .ok (.iconst 0, 1) := by decide +kernel
theorem dX12_runsAll_9 : decode cX12_runsAll 9 = .ok (.iconst (-1), 1) := by decide +kernel
theorem dX12_runsAll_10 : decode cX12_runsAll 10 = .ok (.invokevirtual 188, 3) := by decide +kernel
theorem dX12_runsAll_13 : decode cX12_runsAll 13 = .ok (.return_, 1) := by decide +kernel
theorem dX12_laysNow_0 : decode cX12_laysNow 0 = .ok (.aload_n 0, 1) := by decide +kernel
theorem dX12_laysNow_1 : decode cX12_laysNow 1 = .ok (.invokevirtual 464, 3) := by decide +kernel
theorem dX12_laysNow_4 : decode cX12_laysNow 4 = .ok (.aload_n 0, 1) := by decide +kernel
theorem dX12_laysNow_5 : decode cX12_laysNow 5 = .ok (.getfield 103, 3) := by decide +kernel
theorem dX12_laysNow_8 : decode cX12_laysNow 8 = .ok (.iconst 0, 1) := by decide +kernel
theorem dX12_laysNow_9 : decode cX12_laysNow 9 = .ok (.aload_n 0, 1) := by decide +kernel
theorem dX12_laysNow_10 : decode cX12_laysNow 10 = .ok (.getfield 7, 3) := by decide +kernel
theorem dX12_laysNow_13 : decode cX12_laysNow 13 = .ok (.bipush 7, 2) := by decide +kernel
theorem dX12_laysNow_15 : decode cX12_laysNow 15 = .ok (.iaload, 1) := by decide +kernel
theorem dX12_laysNow_16 : decode cX12_laysNow 16 = .ok (.iastore, 1) := by decide +kernel
theorem dX12_laysNow_17 : decode cX12_laysNow 17 = .ok (.aload_n 0, 1) := by decide +kernel
theorem dX12_laysNow_18 : decode cX12_laysNow 18 = .ok (.getfield 103, 3) := by decide +kernel
theorem dX12_laysNow_21 : decode cX12_laysNow 21 = .ok (.iconst 1, 1) := by decide +kernel
theorem dX12_laysNow_22 : decode cX12_laysNow 22 = .ok (.aload_n 0, 1) := by decide +kernel
theorem dX12_laysNow_23 : decode cX12_laysNow 23 = .ok (.getfield 7, 3) := by decide +kernel
theorem dX12_laysNow_26 : decode cX12_laysNow 26 = .ok (.bipush 8, 2) := by decide +kernel
theorem dX12_laysNow_28 : decode cX12_laysNow 28 = .ok (.iaload, 1) := by decide +kernel
theorem dX12_laysNow_29 : decode cX12_laysNow 29 = .ok (.iastore, 1) := by decide +kernel
theorem dX12_laysNow_30 : decode cX12_laysNow 30 = .ok (.aload_n 0, 1) := by decide +kernel
theorem dX12_laysNow_31 : decode cX12_laysNow 31 = .ok (.aload_n 0, 1) := by decide +kernel
theorem dX12_laysNow_32 : decode cX12_laysNow 32 = .ok (.getfield 7, 3) := by decide +kernel
theorem dX12_laysNow_35 : decode cX12_laysNow 35 = .ok (.iconst 0, 1) := by decide +kernel
theorem dX12_laysNow_36 : decode cX12_laysNow 36 = .ok (.iaload, 1) := by decide +kernel
theorem dX12_laysNow_37 : decode cX12_laysNow 37 = .ok (.iconst (-1), 1) := by decide +kernel
theorem dX12_laysNow_38 : decode cX12_laysNow 38 = .ok (.iconst 0, 1) := by decide +kernel
theorem dX12_laysNow_39 : decode cX12_laysNow 39 = .ok (.invokevirtual 420, 3) := by decide +kernel
theorem dX12_laysNow_42 : decode cX12_laysNow 42 = .ok (.return_, 1) := by decide +kernel
theorem dX12_isPart_0 : decode cX12_isPart 0 = .ok (.iload_n 0, 1) := by decide +kernel
theorem dX12_isPart_1 : decode cX12_isPart 1 = .ok (.iconst (-1), 1) := by decide +kernel
theorem dX12_isPart_2 : decode cX12_isPart 2 = .ok (.if_icmp .eq 12, 3) := by decide +kernel
theorem dX12_isPart_5 : decode cX12_isPart 5 = .ok (.iload_n 0, 1) := by decide +kernel
theorem dX12_isPart_6 : decode cX12_isPart 6 = .ok (.iconst 0, 1) := by decide +kernel
theorem dX12_isPart_7 : decode cX12_isPart 7 = .ok (.iload_n 1, 1) := by decide +kernel
theorem dX12_isPart_8 : decode cX12_isPart 8 = .ok (.invokestatic 152, 3) := by decide +kernel
theorem dX12_isPart_11 : decode cX12_isPart 11 = .ok (.ifCond .eq 7, 3) := by decide +kernel
theorem dX12_isPart_14 : decode cX12_isPart 14 = .ok (.iconst 1, 1) := by decide +kernel
theorem dX12_isPart_15 : decode cX12_isPart 15 = .ok (.goto 4, 3) := by decide +kernel
theorem dX12_isPart_18 : decode cX12_isPart 18 = .ok (.iconst 0, 1) := by decide +kernel
theorem dX12_isPart_19 : decode cX12_isPart 19 = .ok (.ireturn, 1) := by decide +kernel
theorem dX12_sumOf_0 : decode cX12_sumOf 0 = .ok (.iconst 0, 1) := by decide +kernel
theorem dX12_sumOf_1 : decode cX12_sumOf 1 = .ok (.istore 6, 2) := by decide +kernel
theorem dX12_sumOf_3 : decode cX12_sumOf 3 = .ok (.iconst 0, 1) := by decide +kernel
theorem dX12_sumOf_4 : decode cX12_sumOf 4 = .ok (.istore 7, 2) := by decide +kernel
theorem dX12_sumOf_6 : decode cX12_sumOf 6 = .ok (.iload 7, 2) := by decide +kernel
theorem dX12_sumOf_8 : decode cX12_sumOf 8 = .ok (.bipush 12, 2) := by decide +kernel
theorem dX12_sumOf_10 : decode cX12_sumOf 10 = .ok (.if_icmp .ge 128, 3) := by decide +kernel
theorem dX12_sumOf_13 : decode cX12_sumOf 13 = .ok (.iload_n 2, 1) := by decide +kernel
theorem dX12_sumOf_14 : decode cX12_sumOf 14 = .ok (.iconst (-1), 1) := by decide +kernel
theorem dX12_sumOf_15 : decode cX12_sumOf 15 = .ok (.if_icmp .eq 11, 3) := by decide +kernel
theorem dX12_sumOf_18 : decode cX12_sumOf 18 = .ok (.iload 7, 2) := by decide +kernel
theorem dX12_sumOf_20 : decode cX12_sumOf 20 = .ok (.iconst 4, 1) := by decide +kernel
theorem dX12_sumOf_21 : decode cX12_sumOf 21 = .ok (.idiv, 1) := by decide +kernel
theorem dX12_sumOf_22 : decode cX12_sumOf 22 = .ok (.iload_n 2, 1) := by decide +kernel
theorem dX12_sumOf_23 : decode cX12_sumOf 23 = .ok (.if_icmp .ne 37, 3) := by decide +kernel
theorem dX12_sumOf_26 : decode cX12_sumOf 26 = .ok (.iload_n 3, 1) := by decide +kernel
theorem dX12_sumOf_27 : decode cX12_sumOf 27 = .ok (.iconst (-1), 1) := by decide +kernel
theorem dX12_sumOf_28 : decode cX12_sumOf 28 = .ok (.if_icmp .eq 13, 3) := by decide +kernel
theorem dX12_sumOf_31 : decode cX12_sumOf 31 = .ok (.iload 7, 2) := by decide +kernel
theorem dX12_sumOf_33 : decode cX12_sumOf 33 = .ok (.iconst 2, 1) := by decide +kernel
theorem dX12_sumOf_34 : decode cX12_sumOf 34 = .ok (.idiv, 1) := by decide +kernel
theorem dX12_sumOf_35 : decode cX12_sumOf 35 = .ok (.iconst 2, 1) := by decide +kernel
theorem dX12_sumOf_36 : decode cX12_sumOf 36 = .ok (.irem, 1) := by decide +kernel
theorem dX12_sumOf_37 : decode cX12_sumOf 37 = .ok (.iload_n 3, 1) := by decide +kernel
theorem dX12_sumOf_38 : decode cX12_sumOf 38 = .ok (.if_icmp .ne 22, 3) := by decide +kernel
theorem dX12_sumOf_41 : decode cX12_sumOf 41 = .ok (.iload 4, 2) := by decide +kernel
theorem dX12_sumOf_43 : decode cX12_sumOf 43 = .ok (.iconst (-1), 1) := by decide +kernel
theorem dX12_sumOf_44 : decode cX12_sumOf 44 = .ok (.if_icmp .eq 12, 3) := by decide +kernel
theorem dX12_sumOf_47 : decode cX12_sumOf 47 = .ok (.iload 7, 2) := by decide +kernel
theorem dX12_sumOf_49 : decode cX12_sumOf 49 = .ok (.iconst 2, 1) := by decide +kernel
theorem dX12_sumOf_50 : decode cX12_sumOf 50 = .ok (.irem, 1) := by decide +kernel
theorem dX12_sumOf_51 : decode cX12_sumOf 51 = .ok (.iload 4, 2) := by decide +kernel
theorem dX12_sumOf_53 : decode cX12_sumOf 53 = .ok (.if_icmp .ne 7, 3) := by decide +kernel
theorem dX12_sumOf_56 : decode cX12_sumOf 56 = .ok (.iconst 1, 1) := by decide +kernel
theorem dX12_sumOf_57 : decode cX12_sumOf 57 = .ok (.goto 4, 3) := by decide +kernel
theorem dX12_sumOf_60 : decode cX12_sumOf 60 = .ok (.iconst 0, 1) := by decide +kernel
theorem dX12_sumOf_61 : decode cX12_sumOf 61 = .ok (.istore 8, 2) := by decide +kernel
theorem dX12_sumOf_63 : decode cX12_sumOf 63 = .ok (.iconst 0, 1) := by decide +kernel
theorem dX12_sumOf_64 : decode cX12_sumOf 64 = .ok (.istore 9, 2) := by decide +kernel
theorem dX12_sumOf_66 : decode cX12_sumOf 66 = .ok (.iload 9, 2) := by decide +kernel
theorem dX12_sumOf_68 : decode cX12_sumOf 68 = .ok (.aload_n 0, 1) := by decide +kernel
theorem dX12_sumOf_69 : decode cX12_sumOf 69 = .ok (.getfield 7, 3) := by decide +kernel
theorem dX12_sumOf_72 : decode cX12_sumOf 72 = .ok (.iconst 1, 1) := by decide +kernel
theorem dX12_sumOf_73 : decode cX12_sumOf 73 = .ok (.iaload, 1) := by decide +kernel
theorem dX12_sumOf_74 : decode cX12_sumOf 74 = .ok (.if_icmp .ge 58, 3) := by decide +kernel
theorem dX12_sumOf_77 : decode cX12_sumOf 77 = .ok (.iload 8, 2) := by decide +kernel
theorem dX12_sumOf_79 : decode cX12_sumOf 79 = .ok (.ifCond .eq 53, 3) := by decide +kernel
theorem dX12_sumOf_82 : decode cX12_sumOf 82 = .ok (.iload 6, 2) := by decide +kernel
theorem dX12_sumOf_84 : decode cX12_sumOf 84 = .ok (.iload 5, 2) := by decide +kernel
theorem dX12_sumOf_86 : decode cX12_sumOf 86 = .ok (.iconst (-1), 1) := by decide +kernel
theorem dX12_sumOf_87 : decode cX12_sumOf 87 = .ok (.if_icmp .eq 10, 3) := by decide +kernel
theorem dX12_sumOf_90 : decode cX12_sumOf 90 = .ok (.iload 5, 2) := by decide +kernel
theorem dX12_sumOf_92 : decode cX12_sumOf 92 = .ok (.iload 9, 2) := by decide +kernel
theorem dX12_sumOf_94 : decode cX12_sumOf 94 = .ok (.if_icmp .ne 28, 3) := by decide +kernel
theorem dX12_sumOf_97 : decode cX12_sumOf 97 = .ok (.aload_n 0, 1) := by decide +kernel
theorem dX12_sumOf_98 : decode cX12_sumOf 98 = .ok (.getfield 85, 3) := by decide +kernel
theorem dX12_sumOf_101 : decode cX12_sumOf 101 = .ok (.sipush 192, 3) := by decide +kernel
theorem dX12_sumOf_104 : decode cX12_sumOf 104 = .ok (.iload_n 1, 1) := by decide +kernel
theorem dX12_sumOf_105 : decode cX12_sumOf 105 = .ok (.bipush 40, 2) := by decide +kernel
theorem dX12_sumOf_107 : decode cX12_sumOf 107 = .ok (.iadd, 1) := by decide +kernel
theorem dX12_sumOf_108 : decode cX12_sumOf 108 = .ok (.imul, 1) := by decide +kernel
theorem dX12_sumOf_109 : decode cX12_sumOf 109 = .ok (.bipush 16, 2) := by decide +kernel
theorem dX12_sumOf_111 : decode cX12_sumOf 111 = .ok (.iload 7, 2) := by decide +kernel
theorem dX12_sumOf_113 : decode cX12_sumOf 113 = .ok (.imul, 1) := by decide +kernel
theorem dX12_sumOf_114 : decode cX12_sumOf 114 = .ok (.iadd, 1) := by decide +kernel
theorem dX12_sumOf_115 : decode cX12_sumOf 115 = .ok (.iload 9, 2) := by decide +kernel
theorem dX12_sumOf_117 : decode cX12_sumOf 117 = .ok (.iadd, 1) := by decide +kernel
theorem dX12_sumOf_118 : decode cX12_sumOf 118 = .ok (.iaload, 1) := by decide +kernel
theorem dX12_sumOf_119 : decode cX12_sumOf 119 = .ok (.goto 4, 3) := by decide +kernel
theorem dX12_sumOf_122 : decode cX12_sumOf 122 = .ok (.iconst 0, 1) := by decide +kernel
theorem dX12_sumOf_123 : decode cX12_sumOf 123 = .ok (.iadd, 1) := by decide +kernel
theorem dX12_sumOf_124 : decode cX12_sumOf 124 = .ok (.istore 6, 2) := by decide +kernel
theorem dX12_sumOf_126 : decode cX12_sumOf 126 = .ok (.iinc 9 1, 3) := by decide +kernel
theorem dX12_sumOf_129 : decode cX12_sumOf 129 = .ok (.goto (-63), 3) := by decide +kernel
theorem dX12_sumOf_132 : decode cX12_sumOf 132 = .ok (.iinc 7 1, 3) := by decide +kernel
theorem dX12_sumOf_135 : decode cX12_sumOf 135 = .ok (.goto (-129), 3) := by decide +kernel
theorem dX12_sumOf_138 : decode cX12_sumOf 138 = .ok (.iload 6, 2) := by decide +kernel
theorem dX12_sumOf_140 : decode cX12_sumOf 140 = .ok (.ireturn, 1) := by decide +kernel
theorem dX12_given_0 : decode cX12_given 0 = .ok (.iload_n 1, 1) := by decide +kernel
theorem dX12_given_1 : decode cX12_given 1 = .ok (.bipush (-40), 2) := by decide +kernel
theorem dX12_given_3 : decode cX12_given 3 = .ok (.aload_n 0, 1) := by decide +kernel
theorem dX12_given_4 : decode cX12_given 4 = .ok (.getfield 7, 3) := by decide +kernel
theorem dX12_given_7 : decode cX12_given 7 = .ok (.iconst 0, 1) := by decide +kernel
theorem dX12_given_8 : decode cX12_given 8 = .ok (.iaload, 1) := by decide +kernel
theorem dX12_given_9 : decode cX12_given 9 = .ok (.iconst 1, 1) := by decide +kernel
theorem dX12_given_10 : decode cX12_given 10 = .ok (.isub, 1) := by decide +kernel
theorem dX12_given_11 : decode cX12_given 11 = .ok (.invokestatic 152, 3) := by decide +kernel
theorem dX12_given_14 : decode cX12_given 14 = .ok (.ifCond .eq 43, 3) := by decide +kernel
theorem dX12_given_17 : decode cX12_given 17 = .ok (.iload_n 2, 1) := by decide +kernel
theorem dX12_given_18 : decode cX12_given 18 = .ok (.iconst 2, 1) := by decide +kernel
theorem dX12_given_19 : decode cX12_given 19 = .ok (.invokestatic 467, 3) := by decide +kernel
theorem dX12_given_22 : decode cX12_given 22 = .ok (.ifCond .eq 35, 3) := by decide +kernel
theorem dX12_given_25 : decode cX12_given 25 = .ok (.iload_n 3, 1) := by decide +kernel
theorem dX12_given_26 : decode cX12_given 26 = .ok (.iconst 1, 1) := by decide +kernel
theorem dX12_given_27 : decode cX12_given 27 = .ok (.invokestatic 467, 3) := by decide +kernel
theorem dX12_given_30 : decode cX12_given 30 = .ok (.ifCond .eq 27, 3) := by decide +kernel
theorem dX12_given_33 : decode cX12_given 33 = .ok (.iload 4, 2) := by decide +kernel
theorem dX12_given_35 : decode cX12_given 35 = .ok (.iconst 1, 1) := by decide +kernel
theorem dX12_given_36 : decode cX12_given 36 = .ok (.invokestatic 467, 3) := by decide +kernel
theorem dX12_given_39 : decode cX12_given 39 = .ok (.ifCond .eq 18, 3) := by decide +kernel
theorem dX12_given_42 : decode cX12_given 42 = .ok (.iload 5, 2) := by decide +kernel
theorem dX12_given_44 : decode cX12_given 44 = .ok (.iconst (-1), 1) := by decide +kernel
theorem dX12_given_45 : decode cX12_given 45 = .ok (.if_icmp .eq 14, 3) := by decide +kernel
theorem dX12_given_48 : decode cX12_given 48 = .ok (.aload_n 0, 1) := by decide +kernel
theorem dX12_given_49 : decode cX12_given 49 = .ok (.iload 5, 2) := by decide +kernel
theorem dX12_given_51 : decode cX12_given 51 = .ok (.invokevirtual 182, 3) := by decide +kernel
theorem dX12_given_54 : decode cX12_given 54 = .ok (.ifCond .ne 5, 3) := by decide +kernel
theorem dX12_given_57 : decode cX12_given 57 = .ok (.iconst (-1), 1) := by decide +kernel
theorem dX12_given_58 : decode cX12_given 58 = .ok (.ireturn, 1) := by decide +kernel
theorem dX12_given_59 : decode cX12_given 59 = .ok (.aload_n 0, 1) := by decide +kernel
theorem dX12_given_60 : decode cX12_given 60 = .ok (.invokevirtual 464, 3) := by decide +kernel
theorem dX12_given_63 : decode cX12_given 63 = .ok (.aload_n 0, 1) := by decide +kernel
theorem dX12_given_64 : decode cX12_given 64 = .ok (.iload_n 1, 1) := by decide +kernel
theorem dX12_given_65 : decode cX12_given 65 = .ok (.iload_n 2, 1) := by decide +kernel
theorem dX12_given_66 : decode cX12_given 66 = .ok (.iload_n 3, 1) := by decide +kernel
theorem dX12_given_67 : decode cX12_given 67 = .ok (.iload 4, 2) := by decide +kernel
theorem dX12_given_69 : decode cX12_given 69 = .ok (.iload 5, 2) := by decide +kernel
theorem dX12_given_71 : decode cX12_given 71 = .ok (.invokevirtual 471, 3) := by decide +kernel
theorem dX12_given_74 : decode cX12_given 74 = .ok (.ireturn, 1) := by decide +kernel
theorem dX12_unnamed_0 : decode cX12_unnamed 0 = .ok (.iload_n 1, 1) := by decide +kernel
theorem dX12_unnamed_1 : decode cX12_unnamed 1 = .ok (.iconst (-1), 1) := by decide +kernel
theorem dX12_unnamed_2 : decode cX12_unnamed 2 = .ok (.if_icmp .eq 13, 3) := by decide +kernel
theorem dX12_unnamed_5 : decode cX12_unnamed 5 = .ok (.aload_n 0, 1) := by decide +kernel
theorem dX12_unnamed_6 : decode cX12_unnamed 6 = .ok (.iload_n 1, 1) := by decide +kernel
theorem dX12_unnamed_7 : decode cX12_unnamed 7 = .ok (.invokevirtual 475, 3) := by decide +kernel
theorem dX12_unnamed_10 : decode cX12_unnamed 10 = .ok (.ifCond .ne 5, 3) := by decide +kernel
theorem dX12_unnamed_13 : decode cX12_unnamed 13 = .ok (.iconst (-1), 1) := by decide +kernel
theorem dX12_unnamed_14 : decode cX12_unnamed 14 = .ok (.ireturn, 1) := by decide +kernel
theorem dX12_unnamed_15 : decode cX12_unnamed 15 = .ok (.aload_n 0, 1) := by decide +kernel
theorem dX12_unnamed_16 : decode cX12_unnamed 16 = .ok (.invokevirtual 464, 3) := by decide +kernel
theorem dX12_unnamed_19 : decode cX12_unnamed 19 = .ok (.iconst 0, 1) := by decide +kernel
theorem dX12_unnamed_20 : decode cX12_unnamed 20 = .ok (.istore_n 2, 1) := by decide +kernel
theorem dX12_unnamed_21 : decode cX12_unnamed 21 = .ok (.iconst 0, 1) := by decide +kernel
theorem dX12_unnamed_22 : decode cX12_unnamed 22 = .ok (.istore_n 3, 1) := by decide +kernel
theorem dX12_unnamed_23 : decode cX12_unnamed 23 = .ok (.iload_n 3, 1) := by decide +kernel
theorem dX12_unnamed_24 : decode cX12_unnamed 24 = .ok (.aload_n 0, 1) := by decide +kernel
theorem dX12_unnamed_25 : decode cX12_unnamed 25 = .ok (.getfield 7, 3) := by decide +kernel
theorem dX12_unnamed_28 : decode cX12_unnamed 28 = .ok (.iconst 0, 1) := by decide +kernel
theorem dX12_unnamed_29 : decode cX12_unnamed 29 = .ok (.iaload, 1) := by decide +kernel
theorem dX12_unnamed_30 : decode cX12_unnamed 30 = .ok (.if_icmp .ge 32, 3) := by decide +kernel
theorem dX12_unnamed_33 : decode cX12_unnamed 33 = .ok (.iload_n 2, 1) := by decide +kernel
theorem dX12_unnamed_34 : decode cX12_unnamed 34 = .ok (.iload_n 1, 1) := by decide +kernel
theorem dX12_unnamed_35 : decode cX12_unnamed 35 = .ok (.iconst (-1), 1) := by decide +kernel
theorem dX12_unnamed_36 : decode cX12_unnamed 36 = .ok (.if_icmp .eq 8, 3) := by decide +kernel
theorem dX12_unnamed_39 : decode cX12_unnamed 39 = .ok (.iload_n 1, 1) := by decide +kernel
theorem dX12_unnamed_40 : decode cX12_unnamed 40 = .ok (.iload_n 3, 1) := by decide +kernel
theorem dX12_unnamed_41 : decode cX12_unnamed 41 = .ok (.if_icmp .ne 12, 3) := by decide +kernel
theorem dX12_unnamed_44 : decode cX12_unnamed 44 = .ok (.aload_n 0, 1) := by decide +kernel
theorem dX12_unnamed_45 : decode cX12_unnamed 45 = .ok (.getfield 100, 3) := by decide +kernel
theorem dX12_unnamed_48 : decode cX12_unnamed 48 = .ok (.iload_n 3, 1) := by decide +kernel
theorem dX12_unnamed_49 : decode cX12_unnamed 49 = .ok (.iaload, 1) := by decide +kernel
theorem dX12_unnamed_50 : decode cX12_unnamed 50 = .ok (.goto 4, 3) := by decide +kernel
theorem dX12_unnamed_53 : decode cX12_unnamed 53 = .ok (.iconst 0, 1) := by decide +kernel
theorem dX12_unnamed_54 : decode cX12_unnamed 54 = .ok (.iadd, 1) := by decide +kernel
theorem dX12_unnamed_55 : decode cX12_unnamed 55 = .ok (.istore_n 2, 1) := by decide +kernel
theorem dX12_unnamed_56 : decode cX12_unnamed 56 = .ok (.iinc 3 1, 3) := by decide +kernel
theorem dX12_unnamed_59 : decode cX12_unnamed 59 = .ok (.goto (-36), 3) := by decide +kernel
theorem dX12_unnamed_62 : decode cX12_unnamed 62 = .ok (.iload_n 2, 1) := by decide +kernel
theorem dX12_unnamed_63 : decode cX12_unnamed 63 = .ok (.ireturn, 1) := by decide +kernel
theorem dX12_now_0 : decode cX12_now 0 = .ok (.iload_n 1, 1) := by decide +kernel
theorem dX12_now_1 : decode cX12_now 1 = .ok (.iload_n 2, 1) := by decide +kernel
theorem dX12_now_2 : decode cX12_now 2 = .ok (.iload_n 3, 1) := by decide +kernel
theorem dX12_now_3 : decode cX12_now 3 = .ok (.invokestatic 203, 3) := by decide +kernel
theorem dX12_now_6 : decode cX12_now 6 = .ok (.ifCond .eq 27, 3) := by decide +kernel
theorem dX12_now_9 : decode cX12_now 9 = .ok (.aload_n 0, 1) := by decide +kernel
theorem dX12_now_10 : decode cX12_now 10 = .ok (.getfield 7, 3) := by decide +kernel
theorem dX12_now_13 : decode cX12_now 13 = .ok (.iconst 0, 1) := by decide +kernel
theorem dX12_now_14 : decode cX12_now 14 = .ok (.iaload, 1) := by decide +kernel
theorem dX12_now_15 : decode cX12_now 15 = .ok (.bipush 61, 2) := by decide +kernel
theorem dX12_now_17 : decode cX12_now 17 = .ok (.if_icmp .eq 16, 3) := by decide +kernel
theorem dX12_now_20 : decode cX12_now 20 = .ok (.aload_n 0, 1) := by decide +kernel
theorem dX12_now_21 : decode cX12_now 21 = .ok (.getfield 7, 3) := by decide +kernel
theorem dX12_now_24 : decode cX12_now 24 = .ok (.bipush 7, 2) := by decide +kernel
theorem dX12_now_26 : decode cX12_now 26 = .ok (.iload_n 2, 1) := by decide +kernel
theorem dX12_now_27 : decode cX12_now 27 = .ok (.iadd, 1) := by decide +kernel
theorem dX12_now_28 : decode cX12_now 28 = .ok (.iaload, 1) := by decide +kernel
theorem dX12_now_29 : decode cX12_now 29 = .ok (.iconst (-1), 1) := by decide +kernel
theorem dX12_now_30 : decode cX12_now 30 = .ok (.if_icmp .ne 7, 3) := by decide +kernel
theorem dX12_now_33 : decode cX12_now 33 = .ok (.ldc_w 478, 3) := by decide +kernel
theorem dX12_now_36 : decode cX12_now 36 = .ok (.ireturn, 1) := by decide +kernel
theorem dX12_now_37 : decode cX12_now 37 = .ok (.iload 4, 2) := by decide +kernel
theorem dX12_now_39 : decode cX12_now 39 = .ok (.bipush 100, 2) := by decide +kernel
theorem dX12_now_41 : decode cX12_now 41 = .ok (.bipush 99, 2) := by decide +kernel
theorem dX12_now_43 : decode cX12_now 43 = .ok (.aload_n 0, 1) := by decide +kernel
theorem dX12_now_44 : decode cX12_now 44 = .ok (.getfield 7, 3) := by decide +kernel
theorem dX12_now_47 : decode cX12_now 47 = .ok (.iconst 1, 1) := by decide +kernel
theorem dX12_now_48 : decode cX12_now 48 = .ok (.iaload, 1) := by decide +kernel
theorem dX12_now_49 : decode cX12_now 49 = .ok (.iadd, 1) := by decide +kernel
theorem dX12_now_50 : decode cX12_now 50 = .ok (.invokestatic 152, 3) := by decide +kernel
theorem dX12_now_53 : decode cX12_now 53 = .ok (.ifCond .ne 24, 3) := by decide +kernel
theorem dX12_now_56 : decode cX12_now 56 = .ok (.iload 4, 2) := by decide +kernel
theorem dX12_now_58 : decode cX12_now 58 = .ok (.sipush 200, 3) := by decide +kernel
theorem dX12_now_61 : decode cX12_now 61 = .ok (.sipush 199, 3) := by decide +kernel
theorem dX12_now_64 : decode cX12_now 64 = .ok (.aload_n 0, 1) := by decide +kernel
theorem dX12_now_65 : decode cX12_now 65 = .ok (.getfield 7, 3) := by decide +kernel
theorem dX12_now_68 : decode cX12_now 68 = .ok (.iconst 1, 1) := by decide +kernel
theorem dX12_now_69 : decode cX12_now 69 = .ok (.iaload, 1) := by decide +kernel
theorem dX12_now_70 : decode cX12_now 70 = .ok (.iadd, 1) := by decide +kernel
theorem dX12_now_71 : decode cX12_now 71 = .ok (.invokestatic 152, 3) := by decide +kernel
theorem dX12_now_74 : decode cX12_now 74 = .ok (.ifCond .eq 7, 3) := by decide +kernel
theorem dX12_now_77 : decode cX12_now 77 = .ok (.iconst 1, 1) := by decide +kernel
theorem dX12_now_78 : decode cX12_now 78 = .ok (.goto 4, 3) := by decide +kernel
theorem dX12_now_81 : decode cX12_now 81 = .ok (.iconst 0, 1) := by decide +kernel
theorem dX12_now_82 : decode cX12_now 82 = .ok (.istore 5, 2) := by decide +kernel
theorem dX12_now_84 : decode cX12_now 84 = .ok (.iload 4, 2) := by decide +kernel
theorem dX12_now_86 : decode cX12_now 86 = .ok (.iconst 0, 1) := by decide +kernel
theorem dX12_now_87 : decode cX12_now 87 = .ok (.iconst 1, 1) := by decide +kernel
theorem dX12_now_88 : decode cX12_now 88 = .ok (.invokestatic 152, 3) := by decide +kernel
theorem dX12_now_91 : decode cX12_now 91 = .ok (.ifCond .ne 12, 3) := by decide +kernel
theorem dX12_now_94 : decode cX12_now 94 = .ok (.iload 5, 2) := by decide +kernel
theorem dX12_now_96 : decode cX12_now 96 = .ok (.ifCond .ne 7, 3) := by decide +kernel
theorem dX12_now_99 : decode cX12_now 99 = .ok (.ldc_w 478, 3) := by decide +kernel
theorem dX12_now_102 : decode cX12_now 102 = .ok (.ireturn, 1) := by decide +kernel
theorem dX12_now_103 : decode cX12_now 103 = .ok (.aload_n 0, 1) := by decide +kernel
theorem dX12_now_104 : decode cX12_now 104 = .ok (.invokevirtual 479, 3) := by decide +kernel
theorem dX12_now_107 : decode cX12_now 107 = .ok (.iload 5, 2) := by decide +kernel
theorem dX12_now_109 : decode cX12_now 109 = .ok (.ifCond .ne 48, 3) := by decide +kernel
theorem dX12_now_112 : decode cX12_now 112 = .ok (.aload_n 0, 1) := by decide +kernel
theorem dX12_now_113 : decode cX12_now 113 = .ok (.aload_n 0, 1) := by decide +kernel
theorem dX12_now_114 : decode cX12_now 114 = .ok (.getfield 7, 3) := by decide +kernel
theorem dX12_now_117 : decode cX12_now 117 = .ok (.iconst 0, 1) := by decide +kernel
theorem dX12_now_118 : decode cX12_now 118 = .ok (.iaload, 1) := by decide +kernel
theorem dX12_now_119 : decode cX12_now 119 = .ok (.iload_n 1, 1) := by decide +kernel
theorem dX12_now_120 : decode cX12_now 120 = .ok (.iload_n 2, 1) := by decide +kernel
theorem dX12_now_121 : decode cX12_now 121 = .ok (.iload_n 3, 1) := by decide +kernel
theorem dX12_now_122 : decode cX12_now 122 = .ok (.invokevirtual 461, 3) := by decide +kernel
theorem dX12_now_125 : decode cX12_now 125 = .ok (.iload 4, 2) := by decide +kernel
theorem dX12_now_127 : decode cX12_now 127 = .ok (.ifCond .ne 10, 3) := by decide +kernel
theorem dX12_now_130 : decode cX12_now 130 = .ok (.aload_n 0, 1) := by decide +kernel
theorem dX12_now_131 : decode cX12_now 131 = .ok (.getfield 444, 3) := by decide +kernel
theorem dX12_now_134 : decode cX12_now 134 = .ok (.goto 22, 3) := by decide +kernel
theorem dX12_now_137 : decode cX12_now 137 = .ok (.aload_n 0, 1) := by decide +kernel
theorem dX12_now_138 : decode cX12_now 138 = .ok (.getfield 444, 3) := by decide +kernel
theorem dX12_now_141 : decode cX12_now 141 = .ok (.iconst (-1), 1) := by decide +kernel
theorem dX12_now_142 : decode cX12_now 142 = .ok (.if_icmp .ne 9, 3) := by decide +kernel
theorem dX12_now_145 : decode cX12_now 145 = .ok (.ldc_w 478, 3) := by decide +kernel
theorem dX12_now_148 : decode cX12_now 148 = .ok (.goto 8, 3) := by decide +kernel
theorem dX12_now_151 : decode cX12_now 151 = .ok (.aload_n 0, 1) := by decide +kernel
theorem dX12_now_152 : decode cX12_now 152 = .ok (.getfield 447, 3) := by decide +kernel
theorem dX12_now_155 : decode cX12_now 155 = .ok (.l2i, 1) := by decide +kernel
theorem dX12_now_156 : decode cX12_now 156 = .ok (.ireturn, 1) := by decide +kernel
theorem dX12_now_157 : decode cX12_now 157 = .ok (.iload 4, 2) := by decide +kernel
theorem dX12_now_159 : decode cX12_now 159 = .ok (.bipush 100, 2) := by decide +kernel
theorem dX12_now_161 : decode cX12_now 161 = .ok (.irem, 1) := by decide +kernel
theorem dX12_now_162 : decode cX12_now 162 = .ok (.istore 6, 2) := by decide +kernel
theorem dX12_now_164 : decode cX12_now 164 = .ok (.aload_n 0, 1) := by decide +kernel
theorem dX12_now_165 : decode cX12_now 165 = .ok (.aload_n 0, 1) := by decide +kernel
theorem dX12_now_166 : decode cX12_now 166 = .ok (.getfield 7, 3) := by decide +kernel
theorem dX12_now_169 : decode cX12_now 169 = .ok (.iconst 0, 1) := by decide +kernel
theorem dX12_now_170 : decode cX12_now 170 = .ok (.iaload, 1) := by decide +kernel
theorem dX12_now_171 : decode cX12_now 171 = .ok (.iload_n 1, 1) := by decide +kernel
theorem dX12_now_172 : decode cX12_now 172 = .ok (.iload_n 2, 1) := by decide +kernel
theorem dX12_now_173 : decode cX12_now 173 = .ok (.iload 6, 2) := by decide +kernel
theorem dX12_now_175 : decode cX12_now 175 = .ok (.invokevirtual 451, 3) := by decide +kernel
theorem dX12_now_178 : decode cX12_now 178 = .ok (.iload 4, 2) := by decide +kernel
theorem dX12_now_180 : decode cX12_now 180 = .ok (.sipush 200, 3) := by decide +kernel
theorem dX12_now_183 : decode cX12_now 183 = .ok (.if_icmp .ge 20, 3) := by decide +kernel
theorem dX12_now_186 : decode cX12_now 186 = .ok (.aload_n 0, 1) := by decide +kernel
theorem dX12_now_187 : decode cX12_now 187 = .ok (.aload_n 0, 1) := by decide +kernel
theorem dX12_now_188 : decode cX12_now 188 = .ok (.getfield 7, 3) := by decide +kernel
theorem dX12_now_191 : decode cX12_now 191 = .ok (.bipush 7, 2) := by decide +kernel
theorem dX12_now_193 : decode cX12_now 193 = .ok (.iload_n 2, 1) := by decide +kernel
theorem dX12_now_194 : decode cX12_now 194 = .ok (.iadd, 1) := by decide +kernel
theorem dX12_now_195 : decode cX12_now 195 = .ok (.iaload, 1) := by decide +kernel
theorem dX12_now_196 : decode cX12_now 196 = .ok (.invokevirtual 458, 3) := by decide +kernel
theorem dX12_now_199 : decode cX12_now 199 = .ok (.l2i, 1) := by decide +kernel
theorem dX12_now_200 : decode cX12_now 200 = .ok (.goto 25, 3) := by decide +kernel
theorem dX12_now_203 : decode cX12_now 203 = .ok (.aload_n 0, 1) := by decide +kernel
theorem dX12_now_204 : decode cX12_now 204 = .ok (.aload_n 0, 1) := by decide +kernel
theorem dX12_now_205 : decode cX12_now 205 = .ok (.getfield 7, 3) := by decide +kernel
theorem dX12_now_208 : decode cX12_now 208 = .ok (.iconst 0, 1) := by decide +kernel
theorem dX12_now_209 : decode cX12_now 209 = .ok (.iaload, 1) := by decide +kernel
theorem dX12_now_210 : decode cX12_now 210 = .ok (.iload_n 2, 1) := by decide +kernel
theorem dX12_now_211 : decode cX12_now 211 = .ok (.iload_n 3, 1) := by decide +kernel
theorem dX12_now_212 : decode cX12_now 212 = .ok (.iload 6, 2) := by decide +kernel
theorem dX12_now_214 : decode cX12_now 214 = .ok (.invokevirtual 454, 3) := by decide +kernel
theorem dX12_now_217 : decode cX12_now 217 = .ok (.ifCond .eq 7, 3) := by decide +kernel
theorem dX12_now_220 : decode cX12_now 220 = .ok (.iconst 1, 1) := by decide +kernel
theorem dX12_now_221 : decode cX12_now 221 = .ok (.goto 4, 3) := by decide +kernel
theorem dX12_now_224 : decode cX12_now 224 = .ok (.iconst 0, 1) := by decide +kernel
theorem dX12_now_225 : decode cX12_now 225 = .ok (.ireturn, 1) := by decide +kernel
theorem dX12_peak_0 : decode cX12_peak 0 = .ok (.iconst (-1), 1) := by decide +kernel
theorem dX12_peak_1 : decode cX12_peak 1 = .ok (.istore_n 2, 1) := by decide +kernel
theorem dX12_peak_2 : decode cX12_peak 2 = .ok (.iconst 0, 1) := by decide +kernel
theorem dX12_peak_3 : decode cX12_peak 3 = .ok (.istore_n 3, 1) := by decide +kernel
theorem dX12_peak_4 : decode cX12_peak 4 = .ok (.iload_n 3, 1) := by decide +kernel
theorem dX12_peak_5 : decode cX12_peak 5 = .ok (.aload_n 0, 1) := by decide +kernel
theorem dX12_peak_6 : decode cX12_peak 6 = .ok (.getfield 7, 3) := by decide +kernel
theorem dX12_peak_9 : decode cX12_peak 9 = .ok (.iconst 0, 1) := by decide +kernel
theorem dX12_peak_10 : decode cX12_peak 10 = .ok (.iaload, 1) := by decide +kernel
theorem dX12_peak_11 : decode cX12_peak 11 = .ok (.if_icmp .ge 44, 3) := by decide +kernel
theorem dX12_peak_14 : decode cX12_peak 14 = .ok (.aload_n 0, 1) := by decide +kernel
theorem dX12_peak_15 : decode cX12_peak 15 = .ok (.iload_n 3, 1) := by decide +kernel
theorem dX12_peak_16 : decode cX12_peak 16 = .ok (.iload_n 1, 1) := by decide +kernel
theorem dX12_peak_17 : decode cX12_peak 17 = .ok (.invokevirtual 407, 3) := by decide +kernel
theorem dX12_peak_20 : decode cX12_peak 20 = .ok (.ifCond .le 27, 3) := by decide +kernel
theorem dX12_peak_23 : decode cX12_peak 23 = .ok (.iload_n 2, 1) := by decide +kernel
theorem dX12_peak_24 : decode cX12_peak 24 = .ok (.iconst (-1), 1) := by decide +kernel
theorem dX12_peak_25 : decode cX12_peak 25 = .ok (.if_icmp .eq 18, 3) := by decide +kernel
theorem dX12_peak_28 : decode cX12_peak 28 = .ok (.aload_n 0, 1) := by decide +kernel
theorem dX12_peak_29 : decode cX12_peak 29 = .ok (.iload_n 3, 1) := by decide +kernel
theorem dX12_peak_30 : decode cX12_peak 30 = .ok (.iload_n 1, 1) := by decide +kernel
theorem dX12_peak_31 : decode cX12_peak 31 = .ok (.invokevirtual 407, 3) := by decide +kernel
theorem dX12_peak_34 : decode cX12_peak 34 = .ok (.aload_n 0, 1) := by decide +kernel
theorem dX12_peak_35 : decode cX12_peak 35 = .ok (.iload_n 2, 1) := by decide +kernel
theorem dX12_peak_36 : decode cX12_peak 36 = .ok (.iload_n 1, 1) := by decide +kernel
theorem dX12_peak_37 : decode cX12_peak 37 = .ok (.invokevirtual 407, 3) := by decide +kernel
theorem dX12_peak_40 : decode cX12_peak 40 = .ok (.if_icmp .le 7, 3) := by decide +kernel
theorem dX12_peak_43 : decode cX12_peak 43 = .ok (.iload_n 3, 1) := by decide +kernel
theorem dX12_peak_44 : decode cX12_peak 44 = .ok (.goto 4, 3) := by decide +kernel
theorem dX12_peak_47 : decode cX12_peak 47 = .ok (.iload_n 2, 1) := by decide +kernel
theorem dX12_peak_48 : decode cX12_peak 48 = .ok (.istore_n 2, 1) := by decide +kernel
theorem dX12_peak_49 : decode cX12_peak 49 = .ok (.iinc 3 1, 3) := by decide +kernel
theorem dX12_peak_52 : decode cX12_peak 52 = .ok (.goto (-48), 3) := by decide +kernel
theorem dX12_peak_55 : decode cX12_peak 55 = .ok (.iload_n 2, 1) := by decide +kernel
theorem dX12_peak_56 : decode cX12_peak 56 = .ok (.ireturn, 1) := by decide +kernel
theorem dX12_slope_0 : decode cX12_slope 0 = .ok (.iload_n 2, 1) := by decide +kernel
theorem dX12_slope_1 : decode cX12_slope 1 = .ok (.iload_n 3, 1) := by decide +kernel
theorem dX12_slope_2 : decode cX12_slope 2 = .ok (.iadd, 1) := by decide +kernel
theorem dX12_slope_3 : decode cX12_slope 3 = .ok (.istore 4, 2) := by decide +kernel
theorem dX12_slope_5 : decode cX12_slope 5 = .ok (.iconst 0, 1) := by decide +kernel
theorem dX12_slope_6 : decode cX12_slope 6 = .ok (.istore 5, 2) := by decide +kernel
theorem dX12_slope_8 : decode cX12_slope 8 = .ok (.iload 4, 2) := by decide +kernel
theorem dX12_slope_10 : decode cX12_slope 10 = .ok (.ifCond .lt 44, 3) := by decide +kernel
theorem dX12_slope_13 : decode cX12_slope 13 = .ok (.iload 4, 2) := by decide +kernel
theorem dX12_slope_15 : decode cX12_slope 15 = .ok (.aload_n 0, 1) := by decide +kernel
theorem dX12_slope_16 : decode cX12_slope 16 = .ok (.getfield 7, 3) := by decide +kernel
theorem dX12_slope_19 : decode cX12_slope 19 = .ok (.iconst 0, 1) := by decide +kernel
theorem dX12_slope_20 : decode cX12_slope 20 = .ok (.iaload, 1) := by decide +kernel
theorem dX12_slope_21 : decode cX12_slope 21 = .ok (.if_icmp .ge 33, 3) := by decide +kernel
theorem dX12_slope_24 : decode cX12_slope 24 = .ok (.iconst 2, 1) := by decide +kernel
theorem dX12_slope_25 : decode cX12_slope 25 = .ok (.aload_n 0, 1) := by decide +kernel
theorem dX12_slope_26 : decode cX12_slope 26 = .ok (.iload 4, 2) := by decide +kernel
theorem dX12_slope_28 : decode cX12_slope 28 = .ok (.iload_n 1, 1) := by decide +kernel
theorem dX12_slope_29 : decode cX12_slope 29 = .ok (.invokevirtual 407, 3) := by decide +kernel
theorem dX12_slope_32 : decode cX12_slope 32 = .ok (.imul, 1) := by decide +kernel
theorem dX12_slope_33 : decode cX12_slope 33 = .ok (.aload_n 0, 1) := by decide +kernel
theorem dX12_slope_34 : decode cX12_slope 34 = .ok (.iload_n 2, 1) := by decide +kernel
theorem dX12_slope_35 : decode cX12_slope 35 = .ok (.iload_n 1, 1) := by decide +kernel
theorem dX12_slope_36 : decode cX12_slope 36 = .ok (.invokevirtual 407, 3) := by decide +kernel
theorem dX12_slope_39 : decode cX12_slope 39 = .ok (.if_icmp .lt 15, 3) := by decide +kernel
theorem dX12_slope_42 : decode cX12_slope 42 = .ok (.iinc 5 1, 3) := by decide +kernel
theorem dX12_slope_45 : decode cX12_slope 45 = .ok (.iload 4, 2) := by decide +kernel
theorem dX12_slope_47 : decode cX12_slope 47 = .ok (.iload_n 3, 1) := by decide +kernel
theorem dX12_slope_48 : decode cX12_slope 48 = .ok (.iadd, 1) := by decide +kernel
theorem dX12_slope_49 : decode cX12_slope 49 = .ok (.istore 4, 2) := by decide +kernel
theorem dX12_slope_51 : decode cX12_slope 51 = .ok (.goto (-43), 3) := by decide +kernel
theorem dX12_slope_54 : decode cX12_slope 54 = .ok (.iload 5, 2) := by decide +kernel
theorem dX12_slope_56 : decode cX12_slope 56 = .ok (.ireturn, 1) := by decide +kernel
theorem dX12_shape_0 : decode cX12_shape 0 = .ok (.aload_n 0, 1) := by decide +kernel
theorem dX12_shape_1 : decode cX12_shape 1 = .ok (.iload_n 1, 1) := by decide +kernel
theorem dX12_shape_2 : decode cX12_shape 2 = .ok (.invokevirtual 182, 3) := by decide +kernel
theorem dX12_shape_5 : decode cX12_shape 5 = .ok (.ifCond .eq 12, 3) := by decide +kernel
theorem dX12_shape_8 : decode cX12_shape 8 = .ok (.iload_n 2, 1) := by decide +kernel
theorem dX12_shape_9 : decode cX12_shape 9 = .ok (.iconst 0, 1) := by decide +kernel
theorem dX12_shape_10 : decode cX12_shape 10 = .ok (.iconst 3, 1) := by decide +kernel
theorem dX12_shape_11 : decode cX12_shape 11 = .ok (.invokestatic 152, 3) := by decide +kernel
theorem dX12_shape_14 : decode cX12_shape 14 = .ok (.ifCond .ne 5, 3) := by decide +kernel
theorem dX12_shape_17 : decode cX12_shape 17 = .ok (.iconst (-1), 1) := by decide +kernel
theorem dX12_shape_18 : decode cX12_shape 18 = .ok (.ireturn, 1) := by decide +kernel
theorem dX12_shape_19 : decode cX12_shape 19 = .ok (.aload_n 0, 1) := by decide +kernel
theorem dX12_shape_20 : decode cX12_shape 20 = .ok (.invokevirtual 464, 3) := by decide +kernel
theorem dX12_shape_23 : decode cX12_shape 23 = .ok (.aload_n 0, 1) := by decide +kernel
theorem dX12_shape_24 : decode cX12_shape 24 = .ok (.iload_n 1, 1) := by decide +kernel
theorem dX12_shape_25 : decode cX12_shape 25 = .ok (.invokevirtual 482, 3) := by decide +kernel
theorem dX12_shape_28 : decode cX12_shape 28 = .ok (.istore_n 3, 1) := by decide +kernel
theorem dX12_shape_29 : decode cX12_shape 29 = .ok (.iload_n 3, 1) := by decide +kernel
theorem dX12_shape_30 : decode cX12_shape 30 = .ok (.iconst (-1), 1) := by decide +kernel
theorem dX12_shape_31 : decode cX12_shape 31 = .ok (.if_icmp .eq 7, 3) := by decide +kernel
theorem dX12_shape_34 : decode cX12_shape 34 = .ok (.iload_n 2, 1) := by decide +kernel
theorem dX12_shape_35 : decode cX12_shape 35 = .ok (.ifCond .ne 7, 3) := by decide +kernel
theorem dX12_shape_38 : decode cX12_shape 38 = .ok (.iload_n 3, 1) := by decide +kernel
theorem dX12_shape_39 : decode cX12_shape 39 = .ok (.goto 33, 3) := by decide +kernel
theorem dX12_shape_42 : decode cX12_shape 42 = .ok (.iload_n 2, 1) := by decide +kernel
theorem dX12_shape_43 : decode cX12_shape 43 = .ok (.iconst 1, 1) := by decide +kernel
theorem dX12_shape_44 : decode cX12_shape 44 = .ok (.if_icmp .ne 12, 3) := by decide +kernel
theorem dX12_shape_47 : decode cX12_shape 47 = .ok (.aload_n 0, 1) := by decide +kernel
theorem dX12_shape_48 : decode cX12_shape 48 = .ok (.iload_n 3, 1) := by decide +kernel
theorem dX12_shape_49 : decode cX12_shape 49 = .ok (.iload_n 1, 1) := by decide +kernel
theorem dX12_shape_50 : decode cX12_shape 50 = .ok (.invokevirtual 407, 3) := by decide +kernel
theorem dX12_shape_53 : decode cX12_shape 53 = .ok (.goto 19, 3) := by decide +kernel
theorem dX12_shape_56 : decode cX12_shape 56 = .ok (.aload_n 0, 1) := by decide +kernel
theorem dX12_shape_57 : decode cX12_shape 57 = .ok (.iload_n 1, 1) := by decide +kernel
theorem dX12_shape_58 : decode cX12_shape 58 = .ok (.iload_n 3, 1) := by decide +kernel
theorem dX12_shape_59 : decode cX12_shape 59 = .ok (.iload_n 2, 1) := by decide +kernel
theorem dX12_shape_60 : decode cX12_shape 60 = .ok (.iconst 2, 1) := by decide +kernel
theorem dX12_shape_61 : decode cX12_shape 61 = .ok (.if_icmp .ne 7, 3) := by decide +kernel
theorem dX12_shape_64 : decode cX12_shape 64 = .ok (.iconst (-1), 1) := by decide +kernel
theorem dX12_shape_65 : decode cX12_shape 65 = .ok (.goto 4, 3) := by decide +kernel
theorem dX12_shape_68 : decode cX12_shape 68 = .ok (.iconst 1, 1) := by decide +kernel
theorem dX12_shape_69 : decode cX12_shape 69 = .ok (.invokevirtual 485, 3) := by decide +kernel
theorem dX12_shape_72 : decode cX12_shape 72 = .ok (.ireturn, 1) := by decide +kernel
theorem dX12_shapes_0 : decode cX12_shapes 0 = .ok (.iload_n 1, 1) := by decide +kernel
theorem dX12_shapes_1 : decode cX12_shapes 1 = .ok (.iconst 0, 1) := by decide +kernel
theorem dX12_shapes_2 : decode cX12_shapes 2 = .ok (.iconst 1, 1) := by decide +kernel
theorem dX12_shapes_3 : decode cX12_shapes 3 = .ok (.invokestatic 152, 3) := by decide +kernel
theorem dX12_shapes_6 : decode cX12_shapes 6 = .ok (.ifCond .ne 5, 3) := by decide +kernel
theorem dX12_shapes_9 : decode cX12_shapes 9 = .ok (.iconst (-1), 1) := by decide +kernel
theorem dX12_shapes_10 : decode cX12_shapes 10 = .ok (.ireturn, 1) := by decide +kernel
theorem dX12_shapes_11 : decode cX12_shapes 11 = .ok (.aload_n 0, 1) := by decide +kernel
theorem dX12_shapes_12 : decode cX12_shapes 12 = .ok (.invokevirtual 464, 3) := by decide +kernel
theorem dX12_shapes_15 : decode cX12_shapes 15 = .ok (.iconst 0, 1) := by decide +kernel
theorem dX12_shapes_16 : decode cX12_shapes 16 = .ok (.istore_n 2, 1) := by decide +kernel
theorem dX12_shapes_17 : decode cX12_shapes 17 = .ok (.iconst 0, 1) := by decide +kernel
theorem dX12_shapes_18 : decode cX12_shapes 18 = .ok (.istore_n 3, 1) := by decide +kernel
theorem dX12_shapes_19 : decode cX12_shapes 19 = .ok (.iload_n 3, 1) := by decide +kernel
theorem dX12_shapes_20 : decode cX12_shapes 20 = .ok (.aload_n 0, 1) := by decide +kernel
theorem dX12_shapes_21 : decode cX12_shapes 21 = .ok (.getfield 7, 3) := by decide +kernel
theorem dX12_shapes_24 : decode cX12_shapes 24 = .ok (.iconst 1, 1) := by decide +kernel
theorem dX12_shapes_25 : decode cX12_shapes 25 = .ok (.iaload, 1) := by decide +kernel
theorem dX12_shapes_26 : decode cX12_shapes 26 = .ok (.if_icmp .ge 175, 3) := by decide +kernel
theorem dX12_shapes_29 : decode cX12_shapes 29 = .ok (.iconst 0, 1) := by decide +kernel
theorem dX12_shapes_30 : decode cX12_shapes 30 = .ok (.istore 4, 2) := by decide +kernel
theorem dX12_shapes_32 : decode cX12_shapes 32 = .ok (.iload 4, 2) := by decide +kernel
theorem dX12_shapes_34 : decode cX12_shapes 34 = .ok (.iload_n 3, 1) := by decide +kernel
theorem dX12_shapes_35 : decode cX12_shapes 35 = .ok (.if_icmp .ge 160, 3) := by decide +kernel
theorem dX12_shapes_38 : decode cX12_shapes 38 = .ok (.aload_n 0, 1) := by decide +kernel
theorem dX12_shapes_39 : decode cX12_shapes 39 = .ok (.iload_n 3, 1) := by decide +kernel
theorem dX12_shapes_40 : decode cX12_shapes 40 = .ok (.invokevirtual 482, 3) := by decide +kernel
theorem dX12_shapes_43 : decode cX12_shapes 43 = .ok (.istore 5, 2) := by decide +kernel
theorem dX12_shapes_45 : decode cX12_shapes 45 = .ok (.aload_n 0, 1) := by decide +kernel
theorem dX12_shapes_46 : decode cX12_shapes 46 = .ok (.iload 4, 2) := by decide +kernel
theorem dX12_shapes_48 : decode cX12_shapes 48 = .ok (.invokevirtual 482, 3) := by decide +kernel
theorem dX12_shapes_51 : decode cX12_shapes 51 = .ok (.istore 6, 2) := by decide +kernel
theorem dX12_shapes_53 : decode cX12_shapes 53 = .ok (.iload 5, 2) := by decide +kernel
theorem dX12_shapes_55 : decode cX12_shapes 55 = .ok (.iconst (-1), 1) := by decide +kernel
theorem dX12_shapes_56 : decode cX12_shapes 56 = .ok (.if_icmp .eq 133, 3) := by decide +kernel
theorem dX12_shapes_59 : decode cX12_shapes 59 = .ok (.iload 6, 2) := by decide +kernel
theorem dX12_shapes_61 : decode cX12_shapes 61 = .ok (.iconst (-1), 1) := by decide +kernel
theorem dX12_shapes_62 : decode cX12_shapes 62 = .ok (.if_icmp .eq 127, 3) := by decide +kernel
theorem dX12_shapes_65 : decode cX12_shapes 65 = .ok (.aload_n 0, 1) := by decide +kernel
theorem dX12_shapes_66 : decode cX12_shapes 66 = .ok (.iload_n 3, 1) := by decide +kernel
theorem dX12_shapes_67 : decode cX12_shapes 67 = .ok (.iload 5, 2) := by decide +kernel
theorem dX12_shapes_69 : decode cX12_shapes 69 = .ok (.iconst (-1), 1) := by decide +kernel
theorem dX12_shapes_70 : decode cX12_shapes 70 = .ok (.invokevirtual 485, 3) := by decide +kernel
theorem dX12_shapes_73 : decode cX12_shapes 73 = .ok (.aload_n 0, 1) := by decide +kernel
theorem dX12_shapes_74 : decode cX12_shapes 74 = .ok (.iload 4, 2) := by decide +kernel
theorem dX12_shapes_76 : decode cX12_shapes 76 = .ok (.iload 6, 2) := by decide +kernel
theorem dX12_shapes_78 : decode cX12_shapes 78 = .ok (.iconst (-1), 1) := by decide +kernel
theorem dX12_shapes_79 : decode cX12_shapes 79 = .ok (.invokevirtual 485, 3) := by decide +kernel
theorem dX12_shapes_82 : decode cX12_shapes 82 = .ok (.isub, 1) := by decide +kernel
theorem dX12_shapes_83 : decode cX12_shapes 83 = .ok (.istore 7, 2) := by decide +kernel
theorem dX12_shapes_85 : decode cX12_shapes 85 = .ok (.aload_n 0, 1) := by decide +kernel
theorem dX12_shapes_86 : decode cX12_shapes 86 = .ok (.iload_n 3, 1) := by decide +kernel
theorem dX12_shapes_87 : decode cX12_shapes 87 = .ok (.iload 5, 2) := by decide +kernel
theorem dX12_shapes_89 : decode cX12_shapes 89 = .ok (.iconst 1, 1) := by decide +kernel
theorem dX12_shapes_90 : decode cX12_shapes 90 = .ok (.invokevirtual 485, 3) := by decide +kernel
theorem dX12_shapes_93 : decode cX12_shapes 93 = .ok (.aload_n 0, 1) := by decide +kernel
theorem dX12_shapes_94 : decode cX12_shapes 94 = .ok (.iload 4, 2) := by decide +kernel
theorem dX12_shapes_96 : decode cX12_shapes 96 = .ok (.iload 6, 2) := by decide +kernel
theorem dX12_shapes_98 : decode cX12_shapes 98 = .ok (.iconst 1, 1) := by decide +kernel
theorem dX12_shapes_99 : decode cX12_shapes 99 = .ok (.invokevirtual 485, 3) := by decide +kernel
theorem dX12_shapes_102 : decode cX12_shapes 102 = .ok (.isub, 1) := by decide +kernel
theorem dX12_shapes_103 : decode cX12_shapes 103 = .ok (.istore 8, 2) := by decide +kernel
theorem dX12_shapes_105 : decode cX12_shapes 105 = .ok (.iload 7, 2) := by decide +kernel
theorem dX12_shapes_107 : decode cX12_shapes 107 = .ok (.ifCond .le 8, 3) := by decide +kernel
theorem dX12_shapes_110 : decode cX12_shapes 110 = .ok (.iload 8, 2) := by decide +kernel
theorem dX12_shapes_112 : decode cX12_shapes 112 = .ok (.ifCond .gt 13, 3) := by decide +kernel
theorem dX12_shapes_115 : decode cX12_shapes 115 = .ok (.iload 7, 2) := by decide +kernel
theorem dX12_shapes_117 : decode cX12_shapes 117 = .ok (.ifCond .ge 12, 3) := by decide +kernel
theorem dX12_shapes_120 : decode cX12_shapes 120 = .ok (.iload 8, 2) := by decide +kernel
theorem dX12_shapes_122 : decode cX12_shapes 122 = .ok (.ifCond .ge 7, 3) := by decide +kernel
theorem dX12_shapes_125 : decode cX12_shapes 125 = .ok (.iconst 1, 1) := by decide +kernel
theorem dX12_shapes_126 : decode cX12_shapes 126 = .ok (.goto 4, 3) := by decide +kernel
theorem dX12_shapes_129 : decode cX12_shapes 129 = .ok (.iconst 0, 1) := by decide +kernel
theorem dX12_shapes_130 : decode cX12_shapes 130 = .ok (.istore 9, 2) := by decide +kernel
theorem dX12_shapes_132 : decode cX12_shapes 132 = .ok (.iload 7, 2) := by decide +kernel
theorem dX12_shapes_134 : decode cX12_shapes 134 = .ok (.ifCond .le 8, 3) := by decide +kernel
theorem dX12_shapes_137 : decode cX12_shapes 137 = .ok (.iload 8, 2) := by decide +kernel
theorem dX12_shapes_139 : decode cX12_shapes 139 = .ok (.ifCond .lt 13, 3) := by decide +kernel
theorem dX12_shapes_142 : decode cX12_shapes 142 = .ok (.iload 7, 2) := by decide +kernel
theorem dX12_shapes_144 : decode cX12_shapes 144 = .ok (.ifCond .ge 12, 3) := by decide +kernel
theorem dX12_shapes_147 : decode cX12_shapes 147 = .ok (.iload 8, 2) := by decide +kernel
theorem dX12_shapes_149 : decode cX12_shapes 149 = .ok (.ifCond .le 7, 3) := by decide +kernel
theorem dX12_shapes_152 : decode cX12_shapes 152 = .ok (.iconst 1, 1) := by decide +kernel
theorem dX12_shapes_153 : decode cX12_shapes 153 = .ok (.goto 4, 3) := by decide +kernel
theorem dX12_shapes_156 : decode cX12_shapes 156 = .ok (.iconst 0, 1) := by decide +kernel
theorem dX12_shapes_157 : decode cX12_shapes 157 = .ok (.istore 10, 2) := by decide +kernel
theorem dX12_shapes_159 : decode cX12_shapes 159 = .ok (.iload_n 2, 1) := by decide +kernel
theorem dX12_shapes_160 : decode cX12_shapes 160 = .ok (.iload_n 1, 1) := by decide +kernel
theorem dX12_shapes_161 : decode cX12_shapes 161 = .ok (.ifCond .ne 16, 3) := by decide +kernel
theorem dX12_shapes_164 : decode cX12_shapes 164 = .ok (.iload 9, 2) := by decide +kernel
theorem dX12_shapes_166 : decode cX12_shapes 166 = .ok (.ifCond .eq 7, 3) := by decide +kernel
theorem dX12_shapes_169 : decode cX12_shapes 169 = .ok (.iconst 1, 1) := by decide +kernel
theorem dX12_shapes_170 : decode cX12_shapes 170 = .ok (.goto 17, 3) := by decide +kernel
theorem dX12_shapes_173 : decode cX12_shapes 173 = .ok (.iconst 0, 1) := by decide +kernel
theorem dX12_shapes_174 : decode cX12_shapes 174 = .ok (.goto 13, 3) := by decide +kernel
theorem dX12_shapes_177 : decode cX12_shapes 177 = .ok (.iload 10, 2) := by decide +kernel
theorem dX12_shapes_179 : decode cX12_shapes 179 = .ok (.ifCond .eq 7, 3) := by decide +kernel
theorem dX12_shapes_182 : decode cX12_shapes 182 = .ok (.iconst 1, 1) := by decide +kernel
theorem dX12_shapes_183 : decode cX12_shapes 183 = .ok (.goto 4, 3) := by decide +kernel
theorem dX12_shapes_186 : decode cX12_shapes 186 = .ok (.iconst 0, 1) := by decide +kernel
theorem dX12_shapes_187 : decode cX12_shapes 187 = .ok (.iadd, 1) := by decide +kernel
theorem dX12_shapes_188 : decode cX12_shapes 188 = .ok (.istore_n 2, 1) := by decide +kernel
theorem dX12_shapes_189 : decode cX12_shapes 189 = .ok (.iinc 4 1, 3) := by decide +kernel
theorem dX12_shapes_192 : decode cX12_shapes 192 = .ok (.goto (-160), 3) := by decide +kernel
theorem dX12_shapes_195 : decode cX12_shapes 195 = .ok (.iinc 3 1, 3) := by decide +kernel
theorem dX12_shapes_198 : decode cX12_shapes 198 = .ok (.goto (-179), 3) := by decide +kernel
theorem dX12_shapes_201 : decode cX12_shapes 201 = .ok (.iload_n 2, 1) := by decide +kernel
theorem dX12_shapes_202 : decode cX12_shapes 202 = .ok (.ireturn, 1) := by decide +kernel
theorem dX12_thousandths_0 : decode cX12_thousandths 0 = .ok (.iconst 0, 1) := by decide +kernel
theorem dX12_thousandths_1 : decode cX12_thousandths 1 = .ok (.istore 4, 2) := by decide +kernel
theorem dX12_thousandths_3 : decode cX12_thousandths 3 = .ok (.iconst 0, 1) := by decide +kernel
theorem dX12_thousandths_4 : decode cX12_thousandths 4 = .ok (.istore 5, 2) := by decide +kernel
theorem dX12_thousandths_6 : decode cX12_thousandths 6 = .ok (.iload 5, 2) := by decide +kernel
theorem dX12_thousandths_8 : decode cX12_thousandths 8 = .ok (.aload_n 0, 1) := by decide +kernel
theorem dX12_thousandths_9 : decode cX12_thousandths 9 = .ok (.getfield 7, 3) := by decide +kernel
theorem dX12_thousandths_12 : decode cX12_thousandths 12 = .ok (.iconst 1, 1) := by decide +kernel
theorem dX12_thousandths_13 : decode cX12_thousandths 13 = .ok (.iaload, 1) := by decide +kernel
theorem dX12_thousandths_14 : decode cX12_thousandths 14 = .ok (.if_icmp .ge 34, 3) := by decide +kernel
theorem dX12_thousandths_17 : decode cX12_thousandths 17 = .ok (.iload 4, 2) := by decide +kernel
theorem dX12_thousandths_19 : decode cX12_thousandths 19 = .ok (.aload_n 0, 1) := by decide +kernel
theorem dX12_thousandths_20 : decode cX12_thousandths 20 = .ok (.getfield 94, 3) := by decide +kernel
theorem dX12_thousandths_23 : decode cX12_thousandths 23 = .ok (.bipush 32, 2) := by decide +kernel
theorem dX12_thousandths_25 : decode cX12_thousandths 25 = .ok (.iload_n 1, 1) := by decide +kernel
theorem dX12_thousandths_26 : decode cX12_thousandths 26 = .ok (.bipush 40, 2) := by decide +kernel
theorem dX12_thousandths_28 : decode cX12_thousandths 28 = .ok (.iadd, 1) := by decide +kernel
theorem dX12_thousandths_29 : decode cX12_thousandths 29 = .ok (.imul, 1) := by decide +kernel
theorem dX12_thousandths_30 : decode cX12_thousandths 30 = .ok (.bipush 16, 2) := by decide +kernel
theorem dX12_thousandths_32 : decode cX12_thousandths 32 = .ok (.iload_n 2, 1) := by decide +kernel
theorem dX12_thousandths_33 : decode cX12_thousandths 33 = .ok (.imul, 1) := by decide +kernel
theorem dX12_thousandths_34 : decode cX12_thousandths 34 = .ok (.iadd, 1) := by decide +kernel
theorem dX12_thousandths_35 : decode cX12_thousandths 35 = .ok (.iload 5, 2) := by decide +kernel
theorem dX12_thousandths_37 : decode cX12_thousandths 37 = .ok (.iadd, 1) := by decide +kernel
theorem dX12_thousandths_38 : decode cX12_thousandths 38 = .ok (.iaload, 1) := by decide +kernel
theorem dX12_thousandths_39 : decode cX12_thousandths 39 = .ok (.iadd, 1) := by decide +kernel
theorem dX12_thousandths_40 : decode cX12_thousandths 40 = .ok (.istore 4, 2) := by decide +kernel
theorem dX12_thousandths_42 : decode cX12_thousandths 42 = .ok (.iinc 5 1, 3) := by decide +kernel
theorem dX12_thousandths_45 : decode cX12_thousandths 45 = .ok (.goto (-39), 3) := by decide +kernel
theorem dX12_thousandths_48 : decode cX12_thousandths 48 = .ok (.iload 4, 2) := by decide +kernel
theorem dX12_thousandths_50 : decode cX12_thousandths 50 = .ok (.ifCond .ne 7, 3) := by decide +kernel
theorem dX12_thousandths_53 : decode cX12_thousandths 53 = .ok (.iconst 0, 1) := by decide +kernel
theorem dX12_thousandths_54 : decode cX12_thousandths 54 = .ok (.goto 29, 3) := by decide +kernel
theorem dX12_thousandths_57 : decode cX12_thousandths 57 = .ok (.sipush 1000, 3) := by decide +kernel
theorem dX12_thousandths_60 : decode cX12_thousandths 60 = .ok (.aload_n 0, 1) := by decide +kernel
theorem dX12_thousandths_61 : decode cX12_thousandths 61 = .ok (.getfield 94, 3) := by decide +kernel
theorem dX12_thousandths_64 : decode cX12_thousandths 64 = .ok (.bipush 32, 2) := by decide +kernel
theorem dX12_thousandths_66 : decode cX12_thousandths 66 = .ok (.iload_n 1, 1) := by decide +kernel
theorem dX12_thousandths_67 : decode cX12_thousandths 67 = .ok (.bipush 40, 2) := by decide +kernel
theorem dX12_thousandths_69 : decode cX12_thousandths 69 = .ok (.iadd, 1) := by decide +kernel
theorem dX12_thousandths_70 : decode cX12_thousandths 70 = .ok (.imul, 1) := by decide +kernel
theorem dX12_thousandths_71 : decode cX12_thousandths 71 = .ok (.bipush 16, 2) := by decide +kernel
theorem dX12_thousandths_73 : decode cX12_thousandths 73 = .ok (.iload_n 2, 1) := by decide +kernel
theorem dX12_thousandths_74 : decode cX12_thousandths 74 = .ok (.imul, 1) := by decide +kernel
theorem dX12_thousandths_75 : decode cX12_thousandths 75 = .ok (.iadd, 1) := by decide +kernel
theorem dX12_thousandths_76 : decode cX12_thousandths 76 = .ok (.iload_n 3, 1) := by decide +kernel
theorem dX12_thousandths_77 : decode cX12_thousandths 77 = .ok (.iadd, 1) := by decide +kernel
theorem dX12_thousandths_78 : decode cX12_thousandths 78 = .ok (.iaload, 1) := by decide +kernel
theorem dX12_thousandths_79 : decode cX12_thousandths 79 = .ok (.imul, 1) := by decide +kernel
theorem dX12_thousandths_80 : decode cX12_thousandths 80 = .ok (.iload 4, 2) := by decide +kernel
theorem dX12_thousandths_82 : decode cX12_thousandths 82 = .ok (.idiv, 1) := by decide +kernel
theorem dX12_thousandths_83 : decode cX12_thousandths 83 = .ok (.ireturn, 1) := by decide +kernel
theorem dX12_lagOf_0 : decode cX12_lagOf 0 = .ok (.aload_n 0, 1) := by decide +kernel
theorem dX12_lagOf_1 : decode cX12_lagOf 1 = .ok (.getfield 7, 3) := by decide +kernel
theorem dX12_lagOf_4 : decode cX12_lagOf 4 = .ok (.iconst 0, 1) := by decide +kernel
theorem dX12_lagOf_5 : decode cX12_lagOf 5 = .ok (.iaload, 1) := by decide +kernel
theorem dX12_lagOf_6 : decode cX12_lagOf 6 = .ok (.iload_n 1, 1) := by decide +kernel
theorem dX12_lagOf_7 : decode cX12_lagOf 7 = .ok (.isub, 1) := by decide +kernel
theorem dX12_lagOf_8 : decode cX12_lagOf 8 = .ok (.istore_n 2, 1) := by decide +kernel
theorem dX12_lagOf_9 : decode cX12_lagOf 9 = .ok (.iload_n 2, 1) := by decide +kernel
theorem dX12_lagOf_10 : decode cX12_lagOf 10 = .ok (.ifCond .gt 5, 3) := by decide +kernel
theorem dX12_lagOf_13 : decode cX12_lagOf 13 = .ok (.iconst (-1), 1) := by decide +kernel
theorem dX12_lagOf_14 : decode cX12_lagOf 14 = .ok (.ireturn, 1) := by decide +kernel
theorem dX12_lagOf_15 : decode cX12_lagOf 15 = .ok (.iconst 0, 1) := by decide +kernel
theorem dX12_lagOf_16 : decode cX12_lagOf 16 = .ok (.istore_n 3, 1) := by decide +kernel
theorem dX12_lagOf_17 : decode cX12_lagOf 17 = .ok (.iconst 0, 1) := by decide +kernel
theorem dX12_lagOf_18 : decode cX12_lagOf 18 = .ok (.istore 4, 2) := by decide +kernel
theorem dX12_lagOf_20 : decode cX12_lagOf 20 = .ok (.iload 4, 2) := by decide +kernel
theorem dX12_lagOf_22 : decode cX12_lagOf 22 = .ok (.iload_n 2, 1) := by decide +kernel
theorem dX12_lagOf_23 : decode cX12_lagOf 23 = .ok (.if_icmp .ge 56, 3) := by decide +kernel
theorem dX12_lagOf_26 : decode cX12_lagOf 26 = .ok (.iconst 0, 1) := by decide +kernel
theorem dX12_lagOf_27 : decode cX12_lagOf 27 = .ok (.istore 5, 2) := by decide +kernel
theorem dX12_lagOf_29 : decode cX12_lagOf 29 = .ok (.iload 5, 2) := by decide +kernel
theorem dX12_lagOf_31 : decode cX12_lagOf 31 = .ok (.aload_n 0, 1) := by decide +kernel
theorem dX12_lagOf_32 : decode cX12_lagOf 32 = .ok (.getfield 7, 3) := by decide +kernel
theorem dX12_lagOf_35 : decode cX12_lagOf 35 = .ok (.iconst 1, 1) := by decide +kernel
theorem dX12_lagOf_36 : decode cX12_lagOf 36 = .ok (.iaload, 1) := by decide +kernel
theorem dX12_lagOf_37 : decode cX12_lagOf 37 = .ok (.if_icmp .ge 36, 3) := by decide +kernel
theorem dX12_lagOf_40 : decode cX12_lagOf 40 = .ok (.iload_n 3, 1) := by decide +kernel
theorem dX12_lagOf_41 : decode cX12_lagOf 41 = .ok (.aload_n 0, 1) := by decide +kernel
theorem dX12_lagOf_42 : decode cX12_lagOf 42 = .ok (.iload 4, 2) := by decide +kernel
theorem dX12_lagOf_44 : decode cX12_lagOf 44 = .ok (.iconst 0, 1) := by decide +kernel
theorem dX12_lagOf_45 : decode cX12_lagOf 45 = .ok (.iload 5, 2) := by decide +kernel
theorem dX12_lagOf_47 : decode cX12_lagOf 47 = .ok (.invokevirtual 488, 3) := by decide +kernel
theorem dX12_lagOf_50 : decode cX12_lagOf 50 = .ok (.aload_n 0, 1) := by decide +kernel
theorem dX12_lagOf_51 : decode cX12_lagOf 51 = .ok (.iload 4, 2) := by decide +kernel
theorem dX12_lagOf_53 : decode cX12_lagOf 53 = .ok (.iload_n 1, 1) := by decide +kernel
theorem dX12_lagOf_54 : decode cX12_lagOf 54 = .ok (.iadd, 1) := by decide +kernel
theorem dX12_lagOf_55 : decode cX12_lagOf 55 = .ok (.iconst 1, 1) := by decide +kernel
theorem dX12_lagOf_56 : decode cX12_lagOf 56 = .ok (.iload 5, 2) := by decide +kernel
theorem dX12_lagOf_58 : decode cX12_lagOf 58 = .ok (.invokevirtual 488, 3) := by decide +kernel
theorem dX12_lagOf_61 : decode cX12_lagOf 61 = .ok (.isub, 1) := by decide +kernel
theorem dX12_lagOf_62 : decode cX12_lagOf 62 = .ok (.invokestatic 491, 3) := by decide +kernel
theorem dX12_lagOf_65 : decode cX12_lagOf 65 = .ok (.iadd, 1) := by decide +kernel
theorem dX12_lagOf_66 : decode cX12_lagOf 66 = .ok (.istore_n 3, 1) := by decide +kernel
theorem dX12_lagOf_67 : decode cX12_lagOf 67 = .ok (.iinc 5 1, 3) := by decide +kernel
theorem dX12_lagOf_70 : decode cX12_lagOf 70 = .ok (.goto (-41), 3) := by decide +kernel
theorem dX12_lagOf_73 : decode cX12_lagOf 73 = .ok (.iinc 4 1, 3) := by decide +kernel
theorem dX12_lagOf_76 : decode cX12_lagOf 76 = .ok (.goto (-56), 3) := by decide +kernel
theorem dX12_lagOf_79 : decode cX12_lagOf 79 = .ok (.iload_n 3, 1) := by decide +kernel
theorem dX12_lagOf_80 : decode cX12_lagOf 80 = .ok (.iload_n 2, 1) := by decide +kernel
theorem dX12_lagOf_81 : decode cX12_lagOf 81 = .ok (.idiv, 1) := by decide +kernel
theorem dX12_lagOf_82 : decode cX12_lagOf 82 = .ok (.ireturn, 1) := by decide +kernel
theorem dX12_lag_0 : decode cX12_lag 0 = .ok (.aload_n 0, 1) := by decide +kernel
theorem dX12_lag_1 : decode cX12_lag 1 = .ok (.getfield 7, 3) := by decide +kernel
theorem dX12_lag_4 : decode cX12_lag 4 = .ok (.iconst 0, 1) := by decide +kernel
theorem dX12_lag_5 : decode cX12_lag 5 = .ok (.iaload, 1) := by decide +kernel
theorem dX12_lag_6 : decode cX12_lag 6 = .ok (.ifCond .eq 23, 3) := by decide +kernel
theorem dX12_lag_9 : decode cX12_lag 9 = .ok (.iload_n 1, 1) := by decide +kernel
theorem dX12_lag_10 : decode cX12_lag 10 = .ok (.iconst 0, 1) := by decide +kernel
theorem dX12_lag_11 : decode cX12_lag 11 = .ok (.iconst 1, 1) := by decide +kernel
theorem dX12_lag_12 : decode cX12_lag 12 = .ok (.invokestatic 152, 3) := by decide +kernel
theorem dX12_lag_15 : decode cX12_lag 15 = .ok (.ifCond .ne 16, 3) := by decide +kernel
theorem dX12_lag_18 : decode cX12_lag 18 = .ok (.iload_n 1, 1) := by decide +kernel
theorem dX12_lag_19 : decode cX12_lag 19 = .ok (.bipush 10, 2) := by decide +kernel
theorem dX12_lag_21 : decode cX12_lag 21 = .ok (.bipush 30, 2) := by decide +kernel
theorem dX12_lag_23 : decode cX12_lag 23 = .ok (.invokestatic 152, 3) := by decide +kernel
theorem dX12_lag_26 : decode cX12_lag 26 = .ok (.ifCond .ne 5, 3) := by decide +kernel
theorem dX12_lag_29 : decode cX12_lag 29 = .ok (.iconst (-1), 1) := by decide +kernel
theorem dX12_lag_30 : decode cX12_lag 30 = .ok (.ireturn, 1) := by decide +kernel
theorem dX12_lag_31 : decode cX12_lag 31 = .ok (.aload_n 0, 1) := by decide +kernel
theorem dX12_lag_32 : decode cX12_lag 32 = .ok (.invokevirtual 464, 3) := by decide +kernel
theorem dX12_lag_35 : decode cX12_lag 35 = .ok (.iload_n 1, 1) := by decide +kernel
theorem dX12_lag_36 : decode cX12_lag 36 = .ok (.bipush 10, 2) := by decide +kernel
theorem dX12_lag_38 : decode cX12_lag 38 = .ok (.if_icmp .lt 12, 3) := by decide +kernel
theorem dX12_lag_41 : decode cX12_lag 41 = .ok (.aload_n 0, 1) := by decide +kernel
theorem dX12_lag_42 : decode cX12_lag 42 = .ok (.iload_n 1, 1) := by decide +kernel
theorem dX12_lag_43 : decode cX12_lag 43 = .ok (.bipush 10, 2) := by decide +kernel
theorem dX12_lag_45 : decode cX12_lag 45 = .ok (.isub, 1) := by decide +kernel
theorem dX12_lag_46 : decode cX12_lag 46 = .ok (.invokevirtual 494, 3) := by decide +kernel
theorem dX12_lag_49 : decode cX12_lag 49 = .ok (.ireturn, 1) := by decide +kernel
theorem dX12_lag_50 : decode cX12_lag 50 = .ok (.iconst 0, 1) := by decide +kernel
theorem dX12_lag_51 : decode cX12_lag 51 = .ok (.istore_n 2, 1) := by decide +kernel
theorem dX12_lag_52 : decode cX12_lag 52 = .ok (.iconst 1, 1) := by decide +kernel
theorem dX12_lag_53 : decode cX12_lag 53 = .ok (.istore_n 3, 1) := by decide +kernel
theorem dX12_lag_54 : decode cX12_lag 54 = .ok (.iload_n 3, 1) := by decide +kernel
theorem dX12_lag_55 : decode cX12_lag 55 = .ok (.bipush 20, 2) := by decide +kernel
theorem dX12_lag_57 : decode cX12_lag 57 = .ok (.if_icmp .gt 38, 3) := by decide +kernel
theorem dX12_lag_60 : decode cX12_lag 60 = .ok (.aload_n 0, 1) := by decide +kernel
theorem dX12_lag_61 : decode cX12_lag 61 = .ok (.iload_n 3, 1) := by decide +kernel
theorem dX12_lag_62 : decode cX12_lag 62 = .ok (.invokevirtual 494, 3) := by decide +kernel
theorem dX12_lag_65 : decode cX12_lag 65 = .ok (.istore 4, 2) := by decide +kernel
theorem dX12_lag_67 : decode cX12_lag 67 = .ok (.iload 4, 2) := by decide +kernel
theorem dX12_lag_69 : decode cX12_lag 69 = .ok (.iconst (-1), 1) := by decide +kernel
theorem dX12_lag_70 : decode cX12_lag 70 = .ok (.if_icmp .eq 17, 3) := by decide +kernel
theorem dX12_lag_73 : decode cX12_lag 73 = .ok (.iload 4, 2) := by decide +kernel
theorem dX12_lag_75 : decode cX12_lag 75 = .ok (.aload_n 0, 1) := by decide +kernel
theorem dX12_lag_76 : decode cX12_lag 76 = .ok (.iload_n 2, 1) := by decide +kernel
theorem dX12_lag_77 : decode cX12_lag 77 = .ok (.invokevirtual 494, 3) := by decide +kernel
theorem dX12_lag_80 : decode cX12_lag 80 = .ok (.if_icmp .ge 7, 3) := by decide +kernel
theorem dX12_lag_83 : decode cX12_lag 83 = .ok (.iload_n 3, 1) := by decide +kernel
theorem dX12_lag_84 : decode cX12_lag 84 = .ok (.goto 4, 3) := by decide +kernel
theorem dX12_lag_87 : decode cX12_lag 87 = .ok (.iload_n 2, 1) := by decide +kernel
theorem dX12_lag_88 : decode cX12_lag 88 = .ok (.istore_n 2, 1) := by decide +kernel
theorem dX12_lag_89 : decode cX12_lag 89 = .ok (.iinc 3 1, 3) := by decide +kernel
theorem dX12_lag_92 : decode cX12_lag 92 = .ok (.goto (-38), 3) := by decide +kernel
theorem dX12_lag_95 : decode cX12_lag 95 = .ok (.iload_n 1, 1) := by decide +kernel
theorem dX12_lag_96 : decode cX12_lag 96 = .ok (.ifCond .ne 7, 3) := by decide +kernel
theorem dX12_lag_99 : decode cX12_lag 99 = .ok (.iload_n 2, 1) := by decide +kernel
theorem dX12_lag_100 : decode cX12_lag 100 = .ok (.goto 8, 3) := by decide +kernel
theorem dX12_lag_103 : decode cX12_lag 103 = .ok (.aload_n 0, 1) := by decide +kernel
theorem dX12_lag_104 : decode cX12_lag 104 = .ok (.iload_n 2, 1) := by decide +kernel
theorem dX12_lag_105 : decode cX12_lag 105 = .ok (.invokevirtual 494, 3) := by decide +kernel
theorem dX12_lag_108 : decode cX12_lag 108 = .ok (.ireturn, 1) := by decide +kernel
theorem dX12_together_0 : decode cX12_together 0 = .ok (.aload_n 0, 1) := by decide +kernel
theorem dX12_together_1 : decode cX12_together 1 = .ok (.iload_n 1, 1) := by decide +kernel
theorem dX12_together_2 : decode cX12_together 2 = .ok (.invokevirtual 182, 3) := by decide +kernel
theorem dX12_together_5 : decode cX12_together 5 = .ok (.ifCond .eq 11, 3) := by decide +kernel
theorem dX12_together_8 : decode cX12_together 8 = .ok (.aload_n 0, 1) := by decide +kernel
theorem dX12_together_9 : decode cX12_together 9 = .ok (.iload_n 2, 1) := by decide +kernel
theorem dX12_together_10 : decode cX12_together 10 = .ok (.invokevirtual 475, 3) := by decide +kernel
theorem dX12_together_13 : decode cX12_together 13 = .ok (.ifCond .ne 5, 3) := by decide +kernel
theorem dX12_together_16 : decode cX12_together 16 = .ok (.iconst (-1), 1) := by decide +kernel
theorem dX12_together_17 : decode cX12_together 17 = .ok (.ireturn, 1) := by decide +kernel
theorem dX12_together_18 : decode cX12_together 18 = .ok (.aload_n 0, 1) := by decide +kernel
theorem dX12_together_19 : decode cX12_together 19 = .ok (.invokevirtual 464, 3) := by decide +kernel
theorem dX12_together_22 : decode cX12_together 22 = .ok (.iconst 0, 1) := by decide +kernel
theorem dX12_together_23 : decode cX12_together 23 = .ok (.istore_n 3, 1) := by decide +kernel
theorem dX12_together_24 : decode cX12_together 24 = .ok (.iconst 0, 1) := by decide +kernel
theorem dX12_together_25 : decode cX12_together 25 = .ok (.istore 4, 2) := by decide +kernel
theorem dX12_together_27 : decode cX12_together 27 = .ok (.iload 4, 2) := by decide +kernel
theorem dX12_together_29 : decode cX12_together 29 = .ok (.aload_n 0, 1) := by decide +kernel
theorem dX12_together_30 : decode cX12_together 30 = .ok (.getfield 7, 3) := by decide +kernel
theorem dX12_together_33 : decode cX12_together 33 = .ok (.iconst 1, 1) := by decide +kernel
theorem dX12_together_34 : decode cX12_together 34 = .ok (.iaload, 1) := by decide +kernel
theorem dX12_together_35 : decode cX12_together 35 = .ok (.if_icmp .ge 59, 3) := by decide +kernel
theorem dX12_together_38 : decode cX12_together 38 = .ok (.iload_n 3, 1) := by decide +kernel
theorem dX12_together_39 : decode cX12_together 39 = .ok (.aload_n 0, 1) := by decide +kernel
theorem dX12_together_40 : decode cX12_together 40 = .ok (.getfield 16, 3) := by decide +kernel
theorem dX12_together_43 : decode cX12_together 43 = .ok (.iload 4, 2) := by decide +kernel
theorem dX12_together_45 : decode cX12_together 45 = .ok (.laload, 1) := by decide +kernel
theorem dX12_together_46 : decode cX12_together 46 = .ok (.invokestatic 196, 3) := by decide +kernel
theorem dX12_together_49 : decode cX12_together 49 = .ok (.aload_n 0, 1) := by decide +kernel
theorem dX12_together_50 : decode cX12_together 50 = .ok (.getfield 16, 3) := by decide +kernel
theorem dX12_together_53 : decode cX12_together 53 = .ok (.iload_n 1, 1) := by decide +kernel
theorem dX12_together_54 : decode cX12_together 54 = .ok (.laload, 1) := by decide +kernel
theorem dX12_together_55 : decode cX12_together 55 = .ok (.invokestatic 196, 3) := by decide +kernel
theorem dX12_together_58 : decode cX12_together 58 = .ok (.lcmp, 1) := by decide +kernel
theorem dX12_together_59 : decode cX12_together 59 = .ok (.ifCond .ne 26, 3) := by decide +kernel
theorem dX12_together_62 : decode cX12_together 62 = .ok (.aload_n 0, 1) := by decide +kernel
theorem dX12_together_63 : decode cX12_together 63 = .ok (.iload_n 2, 1) := by decide +kernel
theorem dX12_together_64 : decode cX12_together 64 = .ok (.iload 4, 2) := by decide +kernel
theorem dX12_together_66 : decode cX12_together 66 = .ok (.invokevirtual 407, 3) := by decide +kernel
theorem dX12_together_69 : decode cX12_together 69 = .ok (.aload_n 0, 1) := by decide +kernel
theorem dX12_together_70 : decode cX12_together 70 = .ok (.iload_n 2, 1) := by decide +kernel
theorem dX12_together_71 : decode cX12_together 71 = .ok (.iconst 1, 1) := by decide +kernel
theorem dX12_together_72 : decode cX12_together 72 = .ok (.isub, 1) := by decide +kernel
theorem dX12_together_73 : decode cX12_together 73 = .ok (.iload 4, 2) := by decide +kernel
theorem dX12_together_75 : decode cX12_together 75 = .ok (.invokevirtual 407, 3) := by decide +kernel
theorem dX12_together_78 : decode cX12_together 78 = .ok (.if_icmp .le 7, 3) := by decide +kernel
theorem dX12_together_81 : decode cX12_together 81 = .ok (.iconst 1, 1) := by decide +kernel
theorem dX12_together_82 : decode cX12_together 82 = .ok (.goto 4, 3) := by decide +kernel
theorem dX12_together_85 : decode cX12_together 85 = .ok (.iconst 0, 1) := by decide +kernel
theorem dX12_together_86 : decode cX12_together 86 = .ok (.iadd, 1) := by decide +kernel
theorem dX12_together_87 : decode cX12_together 87 = .ok (.istore_n 3, 1) := by decide +kernel
theorem dX12_together_88 : decode cX12_together 88 = .ok (.iinc 4 1, 3) := by decide +kernel
theorem dX12_together_91 : decode cX12_together 91 = .ok (.goto (-64), 3) := by decide +kernel
theorem dX12_together_94 : decode cX12_together 94 = .ok (.iload_n 3, 1) := by decide +kernel
theorem dX12_together_95 : decode cX12_together 95 = .ok (.ireturn, 1) := by decide +kernel
theorem dX12_took_0 : decode cX12_took 0 = .ok (.iload_n 1, 1) := by decide +kernel
theorem dX12_took_1 : decode cX12_took 1 = .ok (.iconst 0, 1) := by decide +kernel
theorem dX12_took_2 : decode cX12_took 2 = .ok (.aload_n 0, 1) := by decide +kernel
theorem dX12_took_3 : decode cX12_took 3 = .ok (.getfield 7, 3) := by decide +kernel
theorem dX12_took_6 : decode cX12_took 6 = .ok (.iconst 3, 1) := by decide +kernel
theorem dX12_took_7 : decode cX12_took 7 = .ok (.iaload, 1) := by decide +kernel
theorem dX12_took_8 : decode cX12_took 8 = .ok (.iconst 1, 1) := by decide +kernel
theorem dX12_took_9 : decode cX12_took 9 = .ok (.isub, 1) := by decide +kernel
theorem dX12_took_10 : decode cX12_took 10 = .ok (.invokestatic 152, 3) := by decide +kernel
theorem dX12_took_13 : decode cX12_took 13 = .ok (.ifCond .eq 19, 3) := by decide +kernel
theorem dX12_took_16 : decode cX12_took 16 = .ok (.aload_n 0, 1) := by decide +kernel
theorem dX12_took_17 : decode cX12_took 17 = .ok (.iload_n 2, 1) := by decide +kernel
theorem dX12_took_18 : decode cX12_took 18 = .ok (.invokevirtual 182, 3) := by decide +kernel
theorem dX12_took_21 : decode cX12_took 21 = .ok (.ifCond .eq 11, 3) := by decide +kernel
theorem dX12_took_24 : decode cX12_took 24 = .ok (.aload_n 0, 1) := by decide +kernel
theorem dX12_took_25 : decode cX12_took 25 = .ok (.iload_n 3, 1) := by decide +kernel
theorem dX12_took_26 : decode cX12_took 26 = .ok (.invokevirtual 475, 3) := by decide +kernel
theorem dX12_took_29 : decode cX12_took 29 = .ok (.ifCond .ne 7, 3) := by decide +kernel
theorem dX12_took_32 : decode cX12_took 32 = .ok (.sipush (-1000), 3) := by decide +kernel
theorem dX12_took_35 : decode cX12_took 35 = .ok (.ireturn, 1) := by decide +kernel
theorem dX12_took_36 : decode cX12_took 36 = .ok (.aload_n 0, 1) := by decide +kernel
theorem dX12_took_37 : decode cX12_took 37 = .ok (.invokevirtual 464, 3) := by decide +kernel
theorem dX12_took_40 : decode cX12_took 40 = .ok (.aload_n 0, 1) := by decide +kernel
theorem dX12_took_41 : decode cX12_took 41 = .ok (.iload_n 3, 1) := by decide +kernel
theorem dX12_took_42 : decode cX12_took 42 = .ok (.iload_n 2, 1) := by decide +kernel
theorem dX12_took_43 : decode cX12_took 43 = .ok (.invokevirtual 407, 3) := by decide +kernel
theorem dX12_took_46 : decode cX12_took 46 = .ok (.istore 4, 2) := by decide +kernel
theorem dX12_took_48 : decode cX12_took 48 = .ok (.aload_n 0, 1) := by decide +kernel
theorem dX12_took_49 : decode cX12_took 49 = .ok (.aload_n 0, 1) := by decide +kernel
theorem dX12_took_50 : decode cX12_took 50 = .ok (.getfield 7, 3) := by decide +kernel
theorem dX12_took_53 : decode cX12_took 53 = .ok (.iconst 0, 1) := by decide +kernel
theorem dX12_took_54 : decode cX12_took 54 = .ok (.iaload, 1) := by decide +kernel
theorem dX12_took_55 : decode cX12_took 55 = .ok (.iload_n 1, 1) := by decide +kernel
theorem dX12_took_56 : decode cX12_took 56 = .ok (.iconst 0, 1) := by decide +kernel
theorem dX12_took_57 : decode cX12_took 57 = .ok (.iconst (-1), 1) := by decide +kernel
theorem dX12_took_58 : decode cX12_took 58 = .ok (.invokevirtual 188, 3) := by decide +kernel
theorem dX12_took_61 : decode cX12_took 61 = .ok (.iload 4, 2) := by decide +kernel
theorem dX12_took_63 : decode cX12_took 63 = .ok (.aload_n 0, 1) := by decide +kernel
theorem dX12_took_64 : decode cX12_took 64 = .ok (.iload_n 3, 1) := by decide +kernel
theorem dX12_took_65 : decode cX12_took 65 = .ok (.iload_n 2, 1) := by decide +kernel
theorem dX12_took_66 : decode cX12_took 66 = .ok (.invokevirtual 407, 3) := by decide +kernel
theorem dX12_took_69 : decode cX12_took 69 = .ok (.isub, 1) := by decide +kernel
theorem dX12_took_70 : decode cX12_took 70 = .ok (.ireturn, 1) := by decide +kernel
theorem dX12_sound_0 : decode cX12_sound 0 = .ok (.aload_n 0, 1) := by decide +kernel
theorem dX12_sound_1 : decode cX12_sound 1 = .ok (.iload_n 1, 1) := by decide +kernel
theorem dX12_sound_2 : decode cX12_sound 2 = .ok (.invokevirtual 182, 3) := by decide +kernel
theorem dX12_sound_5 : decode cX12_sound 5 = .ok (.ifCond .eq 11, 3) := by decide +kernel
theorem dX12_sound_8 : decode cX12_sound 8 = .ok (.aload_n 0, 1) := by decide +kernel
theorem dX12_sound_9 : decode cX12_sound 9 = .ok (.iload_n 2, 1) := by decide +kernel
theorem dX12_sound_10 : decode cX12_sound 10 = .ok (.invokevirtual 475, 3) := by decide +kernel
theorem dX12_sound_13 : decode cX12_sound 13 = .ok (.ifCond .ne 7, 3) := by decide +kernel
theorem dX12_sound_16 : decode cX12_sound 16 = .ok (.sipush (-1000), 3) := by decide +kernel
theorem dX12_sound_19 : decode cX12_sound 19 = .ok (.ireturn, 1) := by decide +kernel
theorem dX12_sound_20 : decode cX12_sound 20 = .ok (.aload_n 0, 1) := by decide +kernel
theorem dX12_sound_21 : decode cX12_sound 21 = .ok (.invokevirtual 464, 3) := by decide +kernel
theorem dX12_sound_24 : decode cX12_sound 24 = .ok (.aload_n 0, 1) := by decide +kernel
theorem dX12_sound_25 : decode cX12_sound 25 = .ok (.iload_n 2, 1) := by decide +kernel
theorem dX12_sound_26 : decode cX12_sound 26 = .ok (.iload_n 1, 1) := by decide +kernel
theorem dX12_sound_27 : decode cX12_sound 27 = .ok (.invokevirtual 407, 3) := by decide +kernel
theorem dX12_sound_30 : decode cX12_sound 30 = .ok (.istore_n 3, 1) := by decide +kernel
theorem dX12_sound_31 : decode cX12_sound 31 = .ok (.aload_n 0, 1) := by decide +kernel
theorem dX12_sound_32 : decode cX12_sound 32 = .ok (.aload_n 0, 1) := by decide +kernel
theorem dX12_sound_33 : decode cX12_sound 33 = .ok (.getfield 7, 3) := by decide +kernel
theorem dX12_sound_36 : decode cX12_sound 36 = .ok (.iconst 0, 1) := by decide +kernel
theorem dX12_sound_37 : decode cX12_sound 37 = .ok (.iaload, 1) := by decide +kernel
theorem dX12_sound_38 : decode cX12_sound 38 = .ok (.iconst (-1), 1) := by decide +kernel
theorem dX12_sound_39 : decode cX12_sound 39 = .ok (.iconst 1, 1) := by decide +kernel
theorem dX12_sound_40 : decode cX12_sound 40 = .ok (.iconst (-1), 1) := by decide +kernel
theorem dX12_sound_41 : decode cX12_sound 41 = .ok (.invokevirtual 188, 3) := by decide +kernel
theorem dX12_sound_44 : decode cX12_sound 44 = .ok (.iload_n 3, 1) := by decide +kernel
theorem dX12_sound_45 : decode cX12_sound 45 = .ok (.aload_n 0, 1) := by decide +kernel
theorem dX12_sound_46 : decode cX12_sound 46 = .ok (.iload_n 2, 1) := by decide +kernel
theorem dX12_sound_47 : decode cX12_sound 47 = .ok (.iload_n 1, 1) := by decide +kernel
theorem dX12_sound_48 : decode cX12_sound 48 = .ok (.invokevirtual 407, 3) := by decide +kernel
theorem dX12_sound_51 : decode cX12_sound 51 = .ok (.isub, 1) := by decide +kernel
theorem dX12_sound_52 : decode cX12_sound 52 = .ok (.ireturn, 1) := by decide +kernel
theorem dX12_ofSex_0 : decode cX12_ofSex 0 = .ok (.aload_n 0, 1) := by decide +kernel
theorem dX12_ofSex_1 : decode cX12_ofSex 1 = .ok (.getfield 97, 3) := by decide +kernel
theorem dX12_ofSex_4 : decode cX12_ofSex 4 = .ok (.bipush 32, 2) := by decide +kernel
theorem dX12_ofSex_6 : decode cX12_ofSex 6 = .ok (.iload_n 1, 1) := by decide +kernel
theorem dX12_ofSex_7 : decode cX12_ofSex 7 = .ok (.bipush 40, 2) := by decide +kernel
theorem dX12_ofSex_9 : decode cX12_ofSex 9 = .ok (.iadd, 1) := by decide +kernel
theorem dX12_ofSex_10 : decode cX12_ofSex 10 = .ok (.imul, 1) := by decide +kernel
theorem dX12_ofSex_11 : decode cX12_ofSex 11 = .ok (.bipush 16, 2) := by decide +kernel
theorem dX12_ofSex_13 : decode cX12_ofSex 13 = .ok (.iload_n 2, 1) := by decide +kernel
theorem dX12_ofSex_14 : decode cX12_ofSex 14 = .ok (.imul, 1) := by decide +kernel
theorem dX12_ofSex_15 : decode cX12_ofSex 15 = .ok (.iadd, 1) := by decide +kernel
theorem dX12_ofSex_16 : decode cX12_ofSex 16 = .ok (.iload_n 3, 1) := by decide +kernel
theorem dX12_ofSex_17 : decode cX12_ofSex 17 = .ok (.iadd, 1) := by decide +kernel
theorem dX12_ofSex_18 : decode cX12_ofSex 18 = .ok (.iaload, 1) := by decide +kernel
theorem dX12_ofSex_19 : decode cX12_ofSex 19 = .ok (.ireturn, 1) := by decide +kernel
theorem dX12_crossed_0 : decode cX12_crossed 0 = .ok (.aload_n 0, 1) := by decide +kernel
theorem dX12_crossed_1 : decode cX12_crossed 1 = .ok (.iload_n 1, 1) := by decide +kernel
theorem dX12_crossed_2 : decode cX12_crossed 2 = .ok (.invokevirtual 182, 3) := by decide +kernel
theorem dX12_crossed_5 : decode cX12_crossed 5 = .ok (.ifCond .eq 12, 3) := by decide +kernel
theorem dX12_crossed_8 : decode cX12_crossed 8 = .ok (.iload_n 2, 1) := by decide +kernel
theorem dX12_crossed_9 : decode cX12_crossed 9 = .ok (.iconst 0, 1) := by decide +kernel
theorem dX12_crossed_10 : decode cX12_crossed 10 = .ok (.iconst 1, 1) := by decide +kernel
theorem dX12_crossed_11 : decode cX12_crossed 11 = .ok (.invokestatic 152, 3) := by decide +kernel
theorem dX12_crossed_14 : decode cX12_crossed 14 = .ok (.ifCond .ne 5, 3) := by decide +kernel
theorem dX12_crossed_17 : decode cX12_crossed 17 = .ok (.iconst (-1), 1) := by decide +kernel
theorem dX12_crossed_18 : decode cX12_crossed 18 = .ok (.ireturn, 1) := by decide +kernel
theorem dX12_crossed_19 : decode cX12_crossed 19 = .ok (.aload_n 0, 1) := by decide +kernel
theorem dX12_crossed_20 : decode cX12_crossed 20 = .ok (.invokevirtual 464, 3) := by decide +kernel
theorem dX12_crossed_23 : decode cX12_crossed 23 = .ok (.iconst 0, 1) := by decide +kernel
theorem dX12_crossed_24 : decode cX12_crossed 24 = .ok (.istore_n 3, 1) := by decide +kernel
theorem dX12_crossed_25 : decode cX12_crossed 25 = .ok (.iconst (-1), 1) := by decide +kernel
theorem dX12_crossed_26 : decode cX12_crossed 26 = .ok (.istore 4, 2) := by decide +kernel
theorem dX12_crossed_28 : decode cX12_crossed 28 = .ok (.iconst 0, 1) := by decide +kernel
theorem dX12_crossed_29 : decode cX12_crossed 29 = .ok (.istore 5, 2) := by decide +kernel
theorem dX12_crossed_31 : decode cX12_crossed 31 = .ok (.bipush (-40), 2) := by decide +kernel
theorem dX12_crossed_33 : decode cX12_crossed 33 = .ok (.istore 6, 2) := by decide +kernel
theorem dX12_crossed_35 : decode cX12_crossed 35 = .ok (.iload 6, 2) := by decide +kernel
theorem dX12_crossed_37 : decode cX12_crossed 37 = .ok (.aload_n 0, 1) := by decide +kernel
theorem dX12_crossed_38 : decode cX12_crossed 38 = .ok (.getfield 7, 3) := by decide +kernel
theorem dX12_crossed_41 : decode cX12_crossed 41 = .ok (.iconst 0, 1) := by decide +kernel
theorem dX12_crossed_42 : decode cX12_crossed 42 = .ok (.iaload, 1) := by decide +kernel
theorem dX12_crossed_43 : decode cX12_crossed 43 = .ok (.if_icmp .ge 104, 3) := by decide +kernel
theorem dX12_crossed_46 : decode cX12_crossed 46 = .ok (.aload_n 0, 1) := by decide +kernel
theorem dX12_crossed_47 : decode cX12_crossed 47 = .ok (.iload 6, 2) := by decide +kernel
theorem dX12_crossed_49 : decode cX12_crossed 49 = .ok (.iconst 1, 1) := by decide +kernel
theorem dX12_crossed_50 : decode cX12_crossed 50 = .ok (.iload_n 1, 1) := by decide +kernel
theorem dX12_crossed_51 : decode cX12_crossed 51 = .ok (.invokevirtual 497, 3) := by decide +kernel
theorem dX12_crossed_54 : decode cX12_crossed 54 = .ok (.aload_n 0, 1) := by decide +kernel
theorem dX12_crossed_55 : decode cX12_crossed 55 = .ok (.iload 6, 2) := by decide +kernel
theorem dX12_crossed_57 : decode cX12_crossed 57 = .ok (.iconst 0, 1) := by decide +kernel
theorem dX12_crossed_58 : decode cX12_crossed 58 = .ok (.iload_n 1, 1) := by decide +kernel
theorem dX12_crossed_59 : decode cX12_crossed 59 = .ok (.invokevirtual 497, 3) := by decide +kernel
theorem dX12_crossed_62 : decode cX12_crossed 62 = .ok (.if_icmp .le 7, 3) := by decide +kernel
theorem dX12_crossed_65 : decode cX12_crossed 65 = .ok (.iconst 1, 1) := by decide +kernel
theorem dX12_crossed_66 : decode cX12_crossed 66 = .ok (.goto 4, 3) := by decide +kernel
theorem dX12_crossed_69 : decode cX12_crossed 69 = .ok (.iconst 0, 1) := by decide +kernel
theorem dX12_crossed_70 : decode cX12_crossed 70 = .ok (.istore 7, 2) := by decide +kernel
theorem dX12_crossed_72 : decode cX12_crossed 72 = .ok (.iload 4, 2) := by decide +kernel
theorem dX12_crossed_74 : decode cX12_crossed 74 = .ok (.iconst (-1), 1) := by decide +kernel
theorem dX12_crossed_75 : decode cX12_crossed 75 = .ok (.if_icmp .eq 23, 3) := by decide +kernel
theorem dX12_crossed_78 : decode cX12_crossed 78 = .ok (.iload 5, 2) := by decide +kernel
theorem dX12_crossed_80 : decode cX12_crossed 80 = .ok (.ifCond .ne 8, 3) := by decide +kernel
theorem dX12_crossed_83 : decode cX12_crossed 83 = .ok (.iload 7, 2) := by decide +kernel
theorem dX12_crossed_85 : decode cX12_crossed 85 = .ok (.ifCond .eq 7, 3) := by decide +kernel
theorem dX12_crossed_88 : decode cX12_crossed 88 = .ok (.iconst 1, 1) := by decide +kernel
theorem dX12_crossed_89 : decode cX12_crossed 89 = .ok (.goto 4, 3) := by decide +kernel
theorem dX12_crossed_92 : decode cX12_crossed 92 = .ok (.iconst 0, 1) := by decide +kernel
theorem dX12_crossed_93 : decode cX12_crossed 93 = .ok (.istore 5, 2) := by decide +kernel
theorem dX12_crossed_95 : decode cX12_crossed 95 = .ok (.goto 31, 3) := by decide +kernel
theorem dX12_crossed_98 : decode cX12_crossed 98 = .ok (.iload 6, 2) := by decide +kernel
theorem dX12_crossed_100 : decode cX12_crossed 100 = .ok (.ifCond .lt 26, 3) := by decide +kernel
theorem dX12_crossed_103 : decode cX12_crossed 103 = .ok (.iload_n 3, 1) := by decide +kernel
theorem dX12_crossed_104 : decode cX12_crossed 104 = .ok (.ifCond .eq 22, 3) := by decide +kernel
theorem dX12_crossed_107 : decode cX12_crossed 107 = .ok (.aload_n 0, 1) := by decide +kernel
theorem dX12_crossed_108 : decode cX12_crossed 108 = .ok (.iload 6, 2) := by decide +kernel
theorem dX12_crossed_110 : decode cX12_crossed 110 = .ok (.iload_n 1, 1) := by decide +kernel
theorem dX12_crossed_111 : decode cX12_crossed 111 = .ok (.invokevirtual 407, 3) := by decide +kernel
theorem dX12_crossed_114 : decode cX12_crossed 114 = .ok (.ifCond .le 12, 3) := by decide +kernel
theorem dX12_crossed_117 : decode cX12_crossed 117 = .ok (.iload 7, 2) := by decide +kernel
theorem dX12_crossed_119 : decode cX12_crossed 119 = .ok (.ifCond .ne 7, 3) := by decide +kernel
theorem dX12_crossed_122 : decode cX12_crossed 122 = .ok (.iload 6, 2) := by decide +kernel
theorem dX12_crossed_124 : decode cX12_crossed 124 = .ok (.istore 4, 2) := by decide +kernel
theorem dX12_crossed_126 : decode cX12_crossed 126 = .ok (.iload_n 3, 1) := by decide +kernel
theorem dX12_crossed_127 : decode cX12_crossed 127 = .ok (.ifCond .ne 8, 3) := by decide +kernel
theorem dX12_crossed_130 : decode cX12_crossed 130 = .ok (.iload 7, 2) := by decide +kernel
theorem dX12_crossed_132 : decode cX12_crossed 132 = .ok (.ifCond .eq 7, 3) := by decide +kernel
theorem dX12_crossed_135 : decode cX12_crossed 135 = .ok (.iconst 1, 1) := by decide +kernel
theorem dX12_crossed_136 : decode cX12_crossed 136 = .ok (.goto 4, 3) := by decide +kernel
theorem dX12_crossed_139 : decode cX12_crossed 139 = .ok (.iconst 0, 1) := by decide +kernel
theorem dX12_crossed_140 : decode cX12_crossed 140 = .ok (.istore_n 3, 1) := by decide +kernel
theorem dX12_crossed_141 : decode cX12_crossed 141 = .ok (.iinc 6 1, 3) := by decide +kernel
theorem dX12_crossed_144 : decode cX12_crossed 144 = .ok (.goto (-109), 3) := by decide +kernel
theorem dX12_crossed_147 : decode cX12_crossed 147 = .ok (.iload 4, 2) := by decide +kernel
theorem dX12_crossed_149 : decode cX12_crossed 149 = .ok (.iconst (-1), 1) := by decide +kernel
theorem dX12_crossed_150 : decode cX12_crossed 150 = .ok (.if_icmp .eq 7, 3) := by decide +kernel
theorem dX12_crossed_153 : decode cX12_crossed 153 = .ok (.iload_n 2, 1) := by decide +kernel
theorem dX12_crossed_154 : decode cX12_crossed 154 = .ok (.ifCond .ne 8, 3) := by decide +kernel
theorem dX12_crossed_157 : decode cX12_crossed 157 = .ok (.iload 4, 2) := by decide +kernel
theorem dX12_crossed_159 : decode cX12_crossed 159 = .ok (.goto 13, 3) := by decide +kernel
theorem dX12_crossed_162 : decode cX12_crossed 162 = .ok (.iload 5, 2) := by decide +kernel
theorem dX12_crossed_164 : decode cX12_crossed 164 = .ok (.ifCond .eq 7, 3) := by decide +kernel
theorem dX12_crossed_167 : decode cX12_crossed 167 = .ok (.iconst 1, 1) := by decide +kernel
theorem dX12_crossed_168 : decode cX12_crossed 168 = .ok (.goto 4, 3) := by decide +kernel
theorem dX12_crossed_171 : decode cX12_crossed 171 = .ok (.iconst 0, 1) := by decide +kernel
theorem dX12_crossed_172 : decode cX12_crossed 172 = .ok (.ireturn, 1) := by decide +kernel
theorem dX12_returned_0 : decode cX12_returned 0 = .ok (.aload_n 0, 1) := by decide +kernel
theorem dX12_returned_1 : decode cX12_returned 1 = .ok (.iload_n 1, 1) := by decide +kernel
theorem dX12_returned_2 : decode cX12_returned 2 = .ok (.invokevirtual 182, 3) := by decide +kernel
theorem dX12_returned_5 : decode cX12_returned 5 = .ok (.ifCond .eq 22, 3) := by decide +kernel
theorem dX12_returned_8 : decode cX12_returned 8 = .ok (.iload_n 2, 1) := by decide +kernel
theorem dX12_returned_9 : decode cX12_returned 9 = .ok (.iconst 1, 1) := by decide +kernel
theorem dX12_returned_10 : decode cX12_returned 10 = .ok (.bipush 60, 2) := by decide +kernel
theorem dX12_returned_12 : decode cX12_returned 12 = .ok (.invokestatic 152, 3) := by decide +kernel
theorem dX12_returned_15 : decode cX12_returned 15 = .ok (.ifCond .eq 12, 3) := by decide +kernel
theorem dX12_returned_18 : decode cX12_returned 18 = .ok (.iload_n 3, 1) := by decide +kernel
theorem dX12_returned_19 : decode cX12_returned 19 = .ok (.iconst 0, 1) := by decide +kernel
theorem dX12_returned_20 : decode cX12_returned 20 = .ok (.iconst 2, 1) := by decide +kernel
theorem dX12_returned_21 : decode cX12_returned 21 = .ok (.invokestatic 152, 3) := by decide +kernel
theorem dX12_returned_24 : decode cX12_returned 24 = .ok (.ifCond .ne 5, 3) := by decide +kernel
theorem dX12_returned_27 : decode cX12_returned 27 = .ok (.iconst (-1), 1) := by decide +kernel
theorem dX12_returned_28 : decode cX12_returned 28 = .ok (.ireturn, 1) := by decide +kernel
theorem dX12_returned_29 : decode cX12_returned 29 = .ok (.aload_n 0, 1) := by decide +kernel
theorem dX12_returned_30 : decode cX12_returned 30 = .ok (.invokevirtual 464, 3) := by decide +kernel
theorem dX12_returned_33 : decode cX12_returned 33 = .ok (.bipush (-100), 2) := by decide +kernel
theorem dX12_returned_35 : decode cX12_returned 35 = .ok (.istore 4, 2) := by decide +kernel
theorem dX12_returned_37 : decode cX12_returned 37 = .ok (.bipush (-40), 2) := by decide +kernel
theorem dX12_returned_39 : decode cX12_returned 39 = .ok (.istore 5, 2) := by decide +kernel
theorem dX12_returned_41 : decode cX12_returned 41 = .ok (.iload 5, 2) := by decide +kernel
theorem dX12_returned_43 : decode cX12_returned 43 = .ok (.aload_n 0, 1) := by decide +kernel
theorem dX12_returned_44 : decode cX12_returned 44 = .ok (.getfield 7, 3) := by decide +kernel
theorem dX12_returned_47 : decode cX12_returned 47 = .ok (.iconst 0, 1) := by decide +kernel
theorem dX12_returned_48 : decode cX12_returned 48 = .ok (.iaload, 1) := by decide +kernel
theorem dX12_returned_49 : decode cX12_returned 49 = .ok (.if_icmp .ge 79, 3) := by decide +kernel
theorem dX12_returned_52 : decode cX12_returned 52 = .ok (.aload_n 0, 1) := by decide +kernel
theorem dX12_returned_53 : decode cX12_returned 53 = .ok (.iload 5, 2) := by decide +kernel
theorem dX12_returned_55 : decode cX12_returned 55 = .ok (.iload_n 1, 1) := by decide +kernel
theorem dX12_returned_56 : decode cX12_returned 56 = .ok (.invokevirtual 407, 3) := by decide +kernel
theorem dX12_returned_59 : decode cX12_returned 59 = .ok (.ifCond .le 63, 3) := by decide +kernel
theorem dX12_returned_62 : decode cX12_returned 62 = .ok (.iload 5, 2) := by decide +kernel
theorem dX12_returned_64 : decode cX12_returned 64 = .ok (.iload 4, 2) := by decide +kernel
theorem dX12_returned_66 : decode cX12_returned 66 = .ok (.isub, 1) := by decide +kernel
theorem dX12_returned_67 : decode cX12_returned 67 = .ok (.iconst 1, 1) := by decide +kernel
theorem dX12_returned_68 : decode cX12_returned 68 = .ok (.isub, 1) := by decide +kernel
theorem dX12_returned_69 : decode cX12_returned 69 = .ok (.istore 6, 2) := by decide +kernel
theorem dX12_returned_71 : decode cX12_returned 71 = .ok (.iload 5, 2) := by decide +kernel
theorem dX12_returned_73 : decode cX12_returned 73 = .ok (.ifCond .lt 45, 3) := by decide +kernel
theorem dX12_returned_76 : decode cX12_returned 76 = .ok (.iload 4, 2) := by decide +kernel
theorem dX12_returned_78 : decode cX12_returned 78 = .ok (.bipush (-100), 2) := by decide +kernel
theorem dX12_returned_80 : decode cX12_returned 80 = .ok (.if_icmp .le 38, 3) := by decide +kernel
theorem dX12_returned_83 : decode cX12_returned 83 = .ok (.iload 6, 2) := by decide +kernel
theorem dX12_returned_85 : decode cX12_returned 85 = .ok (.iload_n 2, 1) := by decide +kernel
theorem dX12_returned_86 : decode cX12_returned 86 = .ok (.if_icmp .lt 32, 3) := by decide +kernel
theorem dX12_returned_89 : decode cX12_returned 89 = .ok (.iload_n 3, 1) := by decide +kernel
theorem dX12_returned_90 : decode cX12_returned 90 = .ok (.ifCond .ne 8, 3) := by decide +kernel
theorem dX12_returned_93 : decode cX12_returned 93 = .ok (.iload 5, 2) := by decide +kernel
theorem dX12_returned_95 : decode cX12_returned 95 = .ok (.goto 22, 3) := by decide +kernel
theorem dX12_returned_98 : decode cX12_returned 98 = .ok (.iload_n 3, 1) := by decide +kernel
theorem dX12_returned_99 : decode cX12_returned 99 = .ok (.iconst 1, 1) := by decide +kernel
theorem dX12_returned_100 : decode cX12_returned 100 = .ok (.if_icmp .ne 8, 3) := by decide +kernel
theorem dX12_returned_103 : decode cX12_returned 103 = .ok (.iload 6, 2) := by decide +kernel
theorem dX12_returned_105 : decode cX12_returned 105 = .ok (.goto 12, 3) := by decide +kernel
theorem dX12_returned_108 : decode cX12_returned 108 = .ok (.aload_n 0, 1) := by decide +kernel
theorem dX12_returned_109 : decode cX12_returned 109 = .ok (.iload_n 1, 1) := by decide +kernel
theorem dX12_returned_110 : decode cX12_returned 110 = .ok (.iload 5, 2) := by decide +kernel
theorem dX12_returned_112 : decode cX12_returned 112 = .ok (.iconst 1, 1) := by decide +kernel
theorem dX12_returned_113 : decode cX12_returned 113 = .ok (.isub, 1) := by decide +kernel
theorem dX12_returned_114 : decode cX12_returned 114 = .ok (.invokevirtual 192, 3) := by decide +kernel
theorem dX12_returned_117 : decode cX12_returned 117 = .ok (.ireturn, 1) := by decide +kernel
theorem dX12_returned_118 : decode cX12_returned 118 = .ok (.iload 5, 2) := by decide +kernel
theorem dX12_returned_120 : decode cX12_returned 120 = .ok (.istore 4, 2) := by decide +kernel
theorem dX12_returned_122 : decode cX12_returned 122 = .ok (.iinc 5 1, 3) := by decide +kernel
theorem dX12_returned_125 : decode cX12_returned 125 = .ok (.goto (-84), 3) := by decide +kernel
theorem dX12_returned_128 : decode cX12_returned 128 = .ok (.iconst (-1), 1) := by decide +kernel
theorem dX12_returned_129 : decode cX12_returned 129 = .ok (.ireturn, 1) := by decide +kernel
theorem dX12_apart_0 : decode cX12_apart 0 = .ok (.lconst 0, 1) := by decide +kernel
theorem dX12_apart_1 : decode cX12_apart 1 = .ok (.lstore_n 3, 1) := by decide +kernel
theorem dX12_apart_2 : decode cX12_apart 2 = .ok (.aload_n 0, 1) := by decide +kernel
theorem dX12_apart_3 : decode cX12_apart 3 = .ok (.getfield 7, 3) := by decide +kernel
theorem dX12_apart_6 : decode cX12_apart 6 = .ok (.iconst 1, 1) := by decide +kernel
theorem dX12_apart_7 : decode cX12_apart 7 = .ok (.iaload, 1) := by decide +kernel
theorem dX12_apart_8 : decode cX12_apart 8 = .ok (.istore 5, 2) := by decide +kernel
theorem dX12_apart_10 : decode cX12_apart 10 = .ok (.iconst 0, 1) := by decide +kernel
theorem dX12_apart_11 : decode cX12_apart 11 = .ok (.istore 6, 2) := by decide +kernel
theorem dX12_apart_13 : decode cX12_apart 13 = .ok (.iload 6, 2) := by decide +kernel
theorem dX12_apart_15 : decode cX12_apart 15 = .ok (.iconst 1, 1) := by decide +kernel
theorem dX12_apart_16 : decode cX12_apart 16 = .ok (.iload 5, 2) := by decide +kernel
theorem dX12_apart_18 : decode cX12_apart 18 = .ok (.ishl, 1) := by decide +kernel
theorem dX12_apart_19 : decode cX12_apart 19 = .ok (.if_icmp .ge 95, 3) := by decide +kernel
theorem dX12_apart_22 : decode cX12_apart 22 = .ok (.lconst 1, 1) := by decide +kernel
theorem dX12_apart_23 : decode cX12_apart 23 = .ok (.lstore 7, 2) := by decide +kernel
theorem dX12_apart_25 : decode cX12_apart 25 = .ok (.iconst 0, 1) := by decide +kernel
theorem dX12_apart_26 : decode cX12_apart 26 = .ok (.istore 9, 2) := by decide +kernel
theorem dX12_apart_28 : decode cX12_apart 28 = .ok (.iconst 0, 1) := by decide +kernel
theorem dX12_apart_29 : decode cX12_apart 29 = .ok (.istore 10, 2) := by decide +kernel
theorem dX12_apart_31 : decode cX12_apart 31 = .ok (.iload 10, 2) := by decide +kernel
theorem dX12_apart_33 : decode cX12_apart 33 = .ok (.iload 5, 2) := by decide +kernel
theorem dX12_apart_35 : decode cX12_apart 35 = .ok (.if_icmp .ge 42, 3) := by decide +kernel
theorem dX12_apart_38 : decode cX12_apart 38 = .ok (.iload 9, 2) := by decide +kernel
theorem dX12_apart_40 : decode cX12_apart 40 = .ok (.iload_n 1, 1) := by decide +kernel
theorem dX12_apart_41 : decode cX12_apart 41 = .ok (.if_icmp .gt 36, 3) := by decide +kernel
theorem dX12_apart_44 : decode cX12_apart 44 = .ok (.iload 6, 2) := by decide +kernel
theorem dX12_apart_46 : decode cX12_apart 46 = .ok (.iload 10, 2) := by decide +kernel
theorem dX12_apart_48 : decode cX12_apart 48 = .ok (.ishr, 1) := by decide +kernel
theorem dX12_apart_49 : decode cX12_apart 49 = .ok (.iconst 1, 1) := by decide +kernel
theorem dX12_apart_50 : decode cX12_apart 50 = .ok (.iand, 1) := by decide +kernel
theorem dX12_apart_51 : decode cX12_apart 51 = .ok (.iconst 1, 1) := by decide +kernel
theorem dX12_apart_52 : decode cX12_apart 52 = .ok (.if_icmp .ne 19, 3) := by decide +kernel
theorem dX12_apart_55 : decode cX12_apart 55 = .ok (.lload 7, 2) := by decide +kernel
theorem dX12_apart_57 : decode cX12_apart 57 = .ok (.aload_n 0, 1) := by decide +kernel
theorem dX12_apart_58 : decode cX12_apart 58 = .ok (.getfield 130, 3) := by decide +kernel
theorem dX12_apart_61 : decode cX12_apart 61 = .ok (.iload 10, 2) := by decide +kernel
theorem dX12_apart_63 : decode cX12_apart 63 = .ok (.iaload, 1) := by decide +kernel
theorem dX12_apart_64 : decode cX12_apart 64 = .ok (.i2l, 1) := by decide +kernel
theorem dX12_apart_65 : decode cX12_apart 65 = .ok (.lmul, 1) := by decide +kernel
theorem dX12_apart_66 : decode cX12_apart 66 = .ok (.lstore 7, 2) := by decide +kernel
theorem dX12_apart_68 : decode cX12_apart 68 = .ok (.iinc 9 1, 3) := by decide +kernel
theorem dX12_apart_71 : decode cX12_apart 71 = .ok (.iinc 10 1, 3) := by decide +kernel
theorem dX12_apart_74 : decode cX12_apart 74 = .ok (.goto (-43), 3) := by decide +kernel
theorem dX12_apart_77 : decode cX12_apart 77 = .ok (.iload 9, 2) := by decide +kernel
theorem dX12_apart_79 : decode cX12_apart 79 = .ok (.iload_n 1, 1) := by decide +kernel
theorem dX12_apart_80 : decode cX12_apart 80 = .ok (.if_icmp .ne 28, 3) := by decide +kernel
theorem dX12_apart_83 : decode cX12_apart 83 = .ok (.lload 7, 2) := by decide +kernel
theorem dX12_apart_85 : decode cX12_apart 85 = .ok (.lconst 0, 1) := by decide +kernel
theorem dX12_apart_86 : decode cX12_apart 86 = .ok (.lcmp, 1) := by decide +kernel
theorem dX12_apart_87 : decode cX12_apart 87 = .ok (.ifCond .le 21, 3) := by decide +kernel
theorem dX12_apart_90 : decode cX12_apart 90 = .ok (.iload_n 2, 1) := by decide +kernel
theorem dX12_apart_91 : decode cX12_apart 91 = .ok (.ifCond .eq 12, 3) := by decide +kernel
theorem dX12_apart_94 : decode cX12_apart 94 = .ok (.aload_n 0, 1) := by decide +kernel
theorem dX12_apart_95 : decode cX12_apart 95 = .ok (.iload 6, 2) := by decide +kernel
theorem dX12_apart_97 : decode cX12_apart 97 = .ok (.invokevirtual 500, 3) := by decide +kernel
theorem dX12_apart_100 : decode cX12_apart 100 = .ok (.ifCond .eq 8, 3) := by decide +kernel
theorem dX12_apart_103 : decode cX12_apart 103 = .ok (.lload_n 3, 1) := by decide +kernel
theorem dX12_apart_104 : decode cX12_apart 104 = .ok (.lload 7, 2) := by decide +kernel
theorem dX12_apart_106 : decode cX12_apart 106 = .ok (.ladd, 1) := by decide +kernel
theorem dX12_apart_107 : decode cX12_apart 107 = .ok (.lstore_n 3, 1) := by decide +kernel
theorem dX12_apart_108 : decode cX12_apart 108 = .ok (.iinc 6 1, 3) := by decide +kernel
theorem dX12_apart_111 : decode cX12_apart 111 = .ok (.goto (-98), 3) := by decide +kernel
theorem dX12_apart_114 : decode cX12_apart 114 = .ok (.lload_n 3, 1) := by decide +kernel
theorem dX12_apart_115 : decode cX12_apart 115 = .ok (.lreturn, 1) := by decide +kernel
theorem dX12_isApart_0 : decode cX12_isApart 0 = .ok (.iconst 1, 1) := by decide +kernel
theorem dX12_isApart_1 : decode cX12_isApart 1 = .ok (.istore_n 2, 1) := by decide +kernel
theorem dX12_isApart_2 : decode cX12_isApart 2 = .ok (.iconst 0, 1) := by decide +kernel
theorem dX12_isApart_3 : decode cX12_isApart 3 = .ok (.istore_n 3, 1) := by decide +kernel
theorem dX12_isApart_4 : decode cX12_isApart 4 = .ok (.iload_n 3, 1) := by decide +kernel
theorem dX12_isApart_5 : decode cX12_isApart 5 = .ok (.aload_n 0, 1) := by decide +kernel
theorem dX12_isApart_6 : decode cX12_isApart 6 = .ok (.getfield 7, 3) := by decide +kernel
theorem dX12_isApart_9 : decode cX12_isApart 9 = .ok (.iconst 1, 1) := by decide +kernel
theorem dX12_isApart_10 : decode cX12_isApart 10 = .ok (.iaload, 1) := by decide +kernel
theorem dX12_isApart_11 : decode cX12_isApart 11 = .ok (.if_icmp .ge 74, 3) := by decide +kernel
theorem dX12_isApart_14 : decode cX12_isApart 14 = .ok (.iload_n 2, 1) := by decide +kernel
theorem dX12_isApart_15 : decode cX12_isApart 15 = .ok (.ifCond .eq 70, 3) := by decide +kernel
theorem dX12_isApart_18 : decode cX12_isApart 18 = .ok (.iconst 0, 1) := by decide +kernel
theorem dX12_isApart_19 : decode cX12_isApart 19 = .ok (.istore 4, 2) := by decide +kernel
theorem dX12_isApart_21 : decode cX12_isApart 21 = .ok (.iload 4, 2) := by decide +kernel
theorem dX12_isApart_23 : decode cX12_isApart 23 = .ok (.iload_n 3, 1) := by decide +kernel
theorem dX12_isApart_24 : decode cX12_isApart 24 = .ok (.if_icmp .ge 55, 3) := by decide +kernel
theorem dX12_isApart_27 : decode cX12_isApart 27 = .ok (.iload_n 2, 1) := by decide +kernel
theorem dX12_isApart_28 : decode cX12_isApart 28 = .ok (.ifCond .eq 51, 3) := by decide +kernel
theorem dX12_isApart_31 : decode cX12_isApart 31 = .ok (.iload_n 1, 1) := by decide +kernel
theorem dX12_isApart_32 : decode cX12_isApart 32 = .ok (.iload_n 3, 1) := by decide +kernel
theorem dX12_isApart_33 : decode cX12_isApart 33 = .ok (.ishr, 1) := by decide +kernel
theorem dX12_isApart_34 : decode cX12_isApart 34 = .ok (.iconst 1, 1) := by decide +kernel
theorem dX12_isApart_35 : decode cX12_isApart 35 = .ok (.iand, 1) := by decide +kernel
theorem dX12_isApart_36 : decode cX12_isApart 36 = .ok (.ifCond .eq 31, 3) := by decide +kernel
theorem dX12_isApart_39 : decode cX12_isApart 39 = .ok (.iload_n 1, 1) := by decide +kernel
theorem dX12_isApart_40 : decode cX12_isApart 40 = .ok (.iload 4, 2) := by decide +kernel
theorem dX12_isApart_42 : decode cX12_isApart 42 = .ok (.ishr, 1) := by decide +kernel
theorem dX12_isApart_43 : decode cX12_isApart 43 = .ok (.iconst 1, 1) := by decide +kernel
theorem dX12_isApart_44 : decode cX12_isApart 44 = .ok (.iand, 1) := by decide +kernel
theorem dX12_isApart_45 : decode cX12_isApart 45 = .ok (.ifCond .eq 22, 3) := by decide +kernel
theorem dX12_isApart_48 : decode cX12_isApart 48 = .ok (.aload_n 0, 1) := by decide +kernel
theorem dX12_isApart_49 : decode cX12_isApart 49 = .ok (.getfield 16, 3) := by decide +kernel
theorem dX12_isApart_52 : decode cX12_isApart 52 = .ok (.iload_n 3, 1) := by decide +kernel
theorem dX12_isApart_53 : decode cX12_isApart 53 = .ok (.laload, 1) := by decide +kernel
theorem dX12_isApart_54 : decode cX12_isApart 54 = .ok (.aload_n 0, 1) := by decide +kernel
theorem dX12_isApart_55 : decode cX12_isApart 55 = .ok (.getfield 16, 3) := by decide +kernel
theorem dX12_isApart_58 : decode cX12_isApart 58 = .ok (.iload 4, 2) := by decide +kernel
theorem dX12_isApart_60 : decode cX12_isApart 60 = .ok (.laload, 1) := by decide +kernel
theorem dX12_isApart_61 : decode cX12_isApart 61 = .ok (.invokestatic 199, 3) := by decide +kernel
theorem dX12_isApart_64 : decode cX12_isApart 64 = .ok (.ifCond .ne 7, 3) := by decide +kernel
theorem dX12_isApart_67 : decode cX12_isApart 67 = .ok (.iconst 1, 1) := by decide +kernel
theorem dX12_isApart_68 : decode cX12_isApart 68 = .ok (.goto 4, 3) := by decide +kernel
theorem dX12_isApart_71 : decode cX12_isApart 71 = .ok (.iconst 0, 1) := by decide +kernel
theorem dX12_isApart_72 : decode cX12_isApart 72 = .ok (.istore_n 2, 1) := by decide +kernel
theorem dX12_isApart_73 : decode cX12_isApart 73 = .ok (.iinc 4 1, 3) := by decide +kernel
theorem dX12_isApart_76 : decode cX12_isApart 76 = .ok (.goto (-55), 3) := by decide +kernel
theorem dX12_isApart_79 : decode cX12_isApart 79 = .ok (.iinc 3 1, 3) := by decide +kernel
theorem dX12_isApart_82 : decode cX12_isApart 82 = .ok (.goto (-78), 3) := by decide +kernel
theorem dX12_isApart_85 : decode cX12_isApart 85 = .ok (.iload_n 2, 1) := by decide +kernel
theorem dX12_isApart_86 : decode cX12_isApart 86 = .ok (.ireturn, 1) := by decide +kernel
theorem dX12_room_0 : decode cX12_room 0 = .ok (.iload_n 1, 1) := by decide +kernel
theorem dX12_room_1 : decode cX12_room 1 = .ok (.iconst 0, 1) := by decide +kernel
theorem dX12_room_2 : decode cX12_room 2 = .ok (.iconst 2, 1) := by decide +kernel
theorem dX12_room_3 : decode cX12_room 3 = .ok (.invokestatic 152, 3) := by decide +kernel
theorem dX12_room_6 : decode cX12_room 6 = .ok (.ifCond .eq 21, 3) := by decide +kernel
theorem dX12_room_9 : decode cX12_room 9 = .ok (.aload_n 0, 1) := by decide +kernel
theorem dX12_room_10 : decode cX12_room 10 = .ok (.iload_n 2, 1) := by decide +kernel
theorem dX12_room_11 : decode cX12_room 11 = .ok (.invokevirtual 475, 3) := by decide +kernel
theorem dX12_room_14 : decode cX12_room 14 = .ok (.ifCond .eq 13, 3) := by decide +kernel
theorem dX12_room_17 : decode cX12_room 17 = .ok (.iload_n 3, 1) := by decide +kernel
theorem dX12_room_18 : decode cX12_room 18 = .ok (.iconst 2, 1) := by decide +kernel
theorem dX12_room_19 : decode cX12_room 19 = .ok (.bipush 8, 2) := by decide +kernel
theorem dX12_room_21 : decode cX12_room 21 = .ok (.invokestatic 152, 3) := by decide +kernel
theorem dX12_room_24 : decode cX12_room 24 = .ok (.ifCond .ne 5, 3) := by decide +kernel
theorem dX12_room_27 : decode cX12_room 27 = .ok (.iconst (-1), 1) := by decide +kernel
theorem dX12_room_28 : decode cX12_room 28 = .ok (.ireturn, 1) := by decide +kernel
theorem dX12_room_29 : decode cX12_room 29 = .ok (.aload_n 0, 1) := by decide +kernel
theorem dX12_room_30 : decode cX12_room 30 = .ok (.invokevirtual 464, 3) := by decide +kernel
theorem dX12_room_33 : decode cX12_room 33 = .ok (.iconst 0, 1) := by decide +kernel
theorem dX12_room_34 : decode cX12_room 34 = .ok (.istore 5, 2) := by decide +kernel
theorem dX12_room_36 : decode cX12_room 36 = .ok (.iconst 0, 1) := by decide +kernel
theorem dX12_room_37 : decode cX12_room 37 = .ok (.istore 6, 2) := by decide +kernel
theorem dX12_room_39 : decode cX12_room 39 = .ok (.iload 6, 2) := by decide +kernel
theorem dX12_room_41 : decode cX12_room 41 = .ok (.aload_n 0, 1) := by decide +kernel
theorem dX12_room_42 : decode cX12_room 42 = .ok (.getfield 7, 3) := by decide +kernel
theorem dX12_room_45 : decode cX12_room 45 = .ok (.iconst 1, 1) := by decide +kernel
theorem dX12_room_46 : decode cX12_room 46 = .ok (.iaload, 1) := by decide +kernel
theorem dX12_room_47 : decode cX12_room 47 = .ok (.if_icmp .ge 48, 3) := by decide +kernel
theorem dX12_room_50 : decode cX12_room 50 = .ok (.aload_n 0, 1) := by decide +kernel
theorem dX12_room_51 : decode cX12_room 51 = .ok (.getfield 130, 3) := by decide +kernel
theorem dX12_room_54 : decode cX12_room 54 = .ok (.iload 6, 2) := by decide +kernel
theorem dX12_room_56 : decode cX12_room 56 = .ok (.aload_n 0, 1) := by decide +kernel
theorem dX12_room_57 : decode cX12_room 57 = .ok (.getfield 91, 3) := by decide +kernel
theorem dX12_room_60 : decode cX12_room 60 = .ok (.bipush 48, 2) := by decide +kernel
theorem dX12_room_62 : decode cX12_room 62 = .ok (.iload_n 2, 1) := by decide +kernel
theorem dX12_room_63 : decode cX12_room 63 = .ok (.bipush 40, 2) := by decide +kernel
theorem dX12_room_65 : decode cX12_room 65 = .ok (.iadd, 1) := by decide +kernel
theorem dX12_room_66 : decode cX12_room 66 = .ok (.imul, 1) := by decide +kernel
theorem dX12_room_67 : decode cX12_room 67 = .ok (.bipush 16, 2) := by decide +kernel
theorem dX12_room_69 : decode cX12_room 69 = .ok (.iload_n 1, 1) := by decide +kernel
theorem dX12_room_70 : decode cX12_room 70 = .ok (.imul, 1) := by decide +kernel
theorem dX12_room_71 : decode cX12_room 71 = .ok (.iadd, 1) := by decide +kernel
theorem dX12_room_72 : decode cX12_room 72 = .ok (.iload 6, 2) := by decide +kernel
theorem dX12_room_74 : decode cX12_room 74 = .ok (.iadd, 1) := by decide +kernel
theorem dX12_room_75 : decode cX12_room 75 = .ok (.iaload, 1) := by decide +kernel
theorem dX12_room_76 : decode cX12_room 76 = .ok (.iastore, 1) := by decide +kernel
theorem dX12_room_77 : decode cX12_room 77 = .ok (.iload 5, 2) := by decide +kernel
theorem dX12_room_79 : decode cX12_room 79 = .ok (.aload_n 0, 1) := by decide +kernel
theorem dX12_room_80 : decode cX12_room 80 = .ok (.getfield 130, 3) := by decide +kernel
theorem dX12_room_83 : decode cX12_room 83 = .ok (.iload 6, 2) := by decide +kernel
theorem dX12_room_85 : decode cX12_room 85 = .ok (.iaload, 1) := by decide +kernel
theorem dX12_room_86 : decode cX12_room 86 = .ok (.iadd, 1) := by decide +kernel
theorem dX12_room_87 : decode cX12_room 87 = .ok (.istore 5, 2) := by decide +kernel
theorem dX12_room_89 : decode cX12_room 89 = .ok (.iinc 6 1, 3) := by decide +kernel
theorem dX12_room_92 : decode cX12_room 92 = .ok (.goto (-53), 3) := by decide +kernel
theorem dX12_room_95 : decode cX12_room 95 = .ok (.iload 5, 2) := by decide +kernel
theorem dX12_room_97 : decode cX12_room 97 = .ok (.iload_n 3, 1) := by decide +kernel
theorem dX12_room_98 : decode cX12_room 98 = .ok (.if_icmp .ge 5, 3) := by decide +kernel
theorem dX12_room_101 : decode cX12_room 101 = .ok (.iconst (-1), 1) := by decide +kernel
theorem dX12_room_102 : decode cX12_room 102 = .ok (.ireturn, 1) := by decide +kernel
theorem dX12_room_103 : decode cX12_room 103 = .ok (.lconst 1, 1) := by decide +kernel
theorem dX12_room_104 : decode cX12_room 104 = .ok (.lstore 6, 2) := by decide +kernel
theorem dX12_room_106 : decode cX12_room 106 = .ok (.iconst 0, 1) := by decide +kernel
theorem dX12_room_107 : decode cX12_room 107 = .ok (.istore 8, 2) := by decide +kernel
theorem dX12_room_109 : decode cX12_room 109 = .ok (.iload 8, 2) := by decide +kernel
theorem dX12_room_111 : decode cX12_room 111 = .ok (.iload_n 3, 1) := by decide +kernel
theorem dX12_room_112 : decode cX12_room 112 = .ok (.if_icmp .ge 26, 3) := by decide +kernel
theorem dX12_room_115 : decode cX12_room 115 = .ok (.lload 6, 2) := by decide +kernel
theorem dX12_room_117 : decode cX12_room 117 = .ok (.iload 5, 2) := by decide +kernel
theorem dX12_room_119 : decode cX12_room 119 = .ok (.iload 8, 2) := by decide +kernel
theorem dX12_room_121 : decode cX12_room 121 = .ok (.isub, 1) := by decide +kernel
theorem dX12_room_122 : decode cX12_room 122 = .ok (.i2l, 1) := by decide +kernel
theorem dX12_room_123 : decode cX12_room 123 = .ok (.lmul, 1) := by decide +kernel
theorem dX12_room_124 : decode cX12_room 124 = .ok (.iload 8, 2) := by decide +kernel
theorem dX12_room_126 : decode cX12_room 126 = .ok (.iconst 1, 1) := by decide +kernel
theorem dX12_room_127 : decode cX12_room 127 = .ok (.iadd, 1) := by decide +kernel
theorem dX12_room_128 : decode cX12_room 128 = .ok (.i2l, 1) := by decide +kernel
theorem dX12_room_129 : decode cX12_room 129 = .ok (.ldiv, 1) := by decide +kernel
theorem dX12_room_130 : decode cX12_room 130 = .ok (.lstore 6, 2) := by decide +kernel
theorem dX12_room_132 : decode cX12_room 132 = .ok (.iinc 8 1, 3) := by decide +kernel
theorem dX12_room_135 : decode cX12_room 135 = .ok (.goto (-26), 3) := by decide +kernel
theorem dX12_room_138 : decode cX12_room 138 = .ok (.lload 6, 2) := by decide +kernel
theorem dX12_room_140 : decode cX12_room 140 = .ok (.aload_n 0, 1) := by decide +kernel
theorem dX12_room_141 : decode cX12_room 141 = .ok (.iload_n 3, 1) := by decide +kernel
theorem dX12_room_142 : decode cX12_room 142 = .ok (.iload 4, 2) := by decide +kernel
theorem dX12_room_144 : decode cX12_room 144 = .ok (.invokevirtual 503, 3) := by decide +kernel
theorem dX12_room_147 : decode cX12_room 147 = .ok (.lsub, 1) := by decide +kernel
theorem dX12_room_148 : decode cX12_room 148 = .ok (.ldc2_w 507, 3) := by decide +kernel
theorem dX12_room_151 : decode cX12_room 151 = .ok (.lmul, 1) := by decide +kernel
theorem dX12_room_152 : decode cX12_room 152 = .ok (.lload 6, 2) := by decide +kernel
theorem dX12_room_154 : decode cX12_room 154 = .ok (.ldiv, 1) := by decide +kernel
theorem dX12_room_155 : decode cX12_room 155 = .ok (.l2i, 1) := by decide +kernel
theorem dX12_room_156 : decode cX12_room 156 = .ok (.ireturn, 1) := by decide +kernel
theorem dX12_best_0 : decode cX12_best 0 = .ok (.iload_n 1, 1) := by decide +kernel
theorem dX12_best_1 : decode cX12_best 1 = .ok (.iload_n 2, 1) := by decide +kernel
theorem dX12_best_2 : decode cX12_best 2 = .ok (.iload_n 3, 1) := by decide +kernel
theorem dX12_best_3 : decode cX12_best 3 = .ok (.invokestatic 203, 3) := by decide +kernel
theorem dX12_best_6 : decode cX12_best 6 = .ok (.ifCond .eq 46, 3) := by decide +kernel
theorem dX12_best_9 : decode cX12_best 9 = .ok (.iload 4, 2) := by decide +kernel
theorem dX12_best_11 : decode cX12_best 11 = .ok (.iconst 0, 1) := by decide +kernel
theorem dX12_best_12 : decode cX12_best 12 = .ok (.iconst 1, 1) := by decide +kernel
theorem dX12_best_13 : decode cX12_best 13 = .ok (.invokestatic 152, 3) := by decide +kernel
theorem dX12_best_16 : decode cX12_best 16 = .ok (.ifCond .eq 36, 3) := by decide +kernel
theorem dX12_best_19 : decode cX12_best 19 = .ok (.aload_n 0, 1) := by decide +kernel
theorem dX12_best_20 : decode cX12_best 20 = .ok (.getfield 7, 3) := by decide +kernel
theorem dX12_best_23 : decode cX12_best 23 = .ok (.iconst 0, 1) := by decide +kernel
theorem dX12_best_24 : decode cX12_best 24 = .ok (.iaload, 1) := by decide +kernel
theorem dX12_best_25 : decode cX12_best 25 = .ok (.ifCond .eq 27, 3) := by decide +kernel
theorem dX12_best_28 : decode cX12_best 28 = .ok (.aload_n 0, 1) := by decide +kernel
theorem dX12_best_29 : decode cX12_best 29 = .ok (.getfield 7, 3) := by decide +kernel
theorem dX12_best_32 : decode cX12_best 32 = .ok (.iconst 0, 1) := by decide +kernel
theorem dX12_best_33 : decode cX12_best 33 = .ok (.iaload, 1) := by decide +kernel
theorem dX12_best_34 : decode cX12_best 34 = .ok (.bipush 61, 2) := by decide +kernel
theorem dX12_best_36 : decode cX12_best 36 = .ok (.if_icmp .eq 16, 3) := by decide +kernel
theorem dX12_best_39 : decode cX12_best 39 = .ok (.aload_n 0, 1) := by decide +kernel
theorem dX12_best_40 : decode cX12_best 40 = .ok (.getfield 7, 3) := by decide +kernel
theorem dX12_best_43 : decode cX12_best 43 = .ok (.bipush 7, 2) := by decide +kernel
theorem dX12_best_45 : decode cX12_best 45 = .ok (.iload_n 2, 1) := by decide +kernel
theorem dX12_best_46 : decode cX12_best 46 = .ok (.iadd, 1) := by decide +kernel
theorem dX12_best_47 : decode cX12_best 47 = .ok (.iaload, 1) := by decide +kernel
theorem dX12_best_48 : decode cX12_best 48 = .ok (.iconst (-1), 1) := by decide +kernel
theorem dX12_best_49 : decode cX12_best 49 = .ok (.if_icmp .ne 5, 3) := by decide +kernel
theorem dX12_best_52 : decode cX12_best 52 = .ok (.iconst (-1), 1) := by decide +kernel
theorem dX12_best_53 : decode cX12_best 53 = .ok (.ireturn, 1) := by decide +kernel
theorem dX12_best_54 : decode cX12_best 54 = .ok (.aload_n 0, 1) := by decide +kernel
theorem dX12_best_55 : decode cX12_best 55 = .ok (.invokevirtual 479, 3) := by decide +kernel
theorem dX12_best_58 : decode cX12_best 58 = .ok (.iconst (-1), 1) := by decide +kernel
theorem dX12_best_59 : decode cX12_best 59 = .ok (.istore 5, 2) := by decide +kernel
theorem dX12_best_61 : decode cX12_best 61 = .ok (.iconst 0, 1) := by decide +kernel
theorem dX12_best_62 : decode cX12_best 62 = .ok (.istore 6, 2) := by decide +kernel
theorem dX12_best_64 : decode cX12_best 64 = .ok (.lconst 0, 1) := by decide +kernel
theorem dX12_best_65 : decode cX12_best 65 = .ok (.lstore 7, 2) := by decide +kernel
theorem dX12_best_67 : decode cX12_best 67 = .ok (.iconst 0, 1) := by decide +kernel
theorem dX12_best_68 : decode cX12_best 68 = .ok (.istore 9, 2) := by decide +kernel
theorem dX12_best_70 : decode cX12_best 70 = .ok (.iload 9, 2) := by decide +kernel
theorem dX12_best_72 : decode cX12_best 72 = .ok (.aload_n 0, 1) := by decide +kernel
theorem dX12_best_73 : decode cX12_best 73 = .ok (.getfield 7, 3) := by decide +kernel
theorem dX12_best_76 : decode cX12_best 76 = .ok (.iconst 1, 1) := by decide +kernel
theorem dX12_best_77 : decode cX12_best 77 = .ok (.iaload, 1) := by decide +kernel
theorem dX12_best_78 : decode cX12_best 78 = .ok (.if_icmp .ge 179, 3) := by decide +kernel
theorem dX12_best_81 : decode cX12_best 81 = .ok (.aload_n 0, 1) := by decide +kernel
theorem dX12_best_82 : decode cX12_best 82 = .ok (.aload_n 0, 1) := by decide +kernel
theorem dX12_best_83 : decode cX12_best 83 = .ok (.getfield 7, 3) := by decide +kernel
theorem dX12_best_86 : decode cX12_best 86 = .ok (.iconst 0, 1) := by decide +kernel
theorem dX12_best_87 : decode cX12_best 87 = .ok (.iaload, 1) := by decide +kernel
theorem dX12_best_88 : decode cX12_best 88 = .ok (.iload_n 1, 1) := by decide +kernel
theorem dX12_best_89 : decode cX12_best 89 = .ok (.iload_n 2, 1) := by decide +kernel
theorem dX12_best_90 : decode cX12_best 90 = .ok (.iload 9, 2) := by decide +kernel
theorem dX12_best_92 : decode cX12_best 92 = .ok (.invokevirtual 451, 3) := by decide +kernel
theorem dX12_best_95 : decode cX12_best 95 = .ok (.aload_n 0, 1) := by decide +kernel
theorem dX12_best_96 : decode cX12_best 96 = .ok (.aload_n 0, 1) := by decide +kernel
theorem dX12_best_97 : decode cX12_best 97 = .ok (.getfield 7, 3) := by decide +kernel
theorem dX12_best_100 : decode cX12_best 100 = .ok (.iconst 0, 1) := by decide +kernel
theorem dX12_best_101 : decode cX12_best 101 = .ok (.iaload, 1) := by decide +kernel
theorem dX12_best_102 : decode cX12_best 102 = .ok (.iload_n 2, 1) := by decide +kernel
theorem dX12_best_103 : decode cX12_best 103 = .ok (.iload_n 3, 1) := by decide +kernel
theorem dX12_best_104 : decode cX12_best 104 = .ok (.iload 9, 2) := by decide +kernel
theorem dX12_best_106 : decode cX12_best 106 = .ok (.invokevirtual 454, 3) := by decide +kernel
theorem dX12_best_109 : decode cX12_best 109 = .ok (.ifCond .eq 142, 3) := by decide +kernel
theorem dX12_best_112 : decode cX12_best 112 = .ok (.aload_n 0, 1) := by decide +kernel
theorem dX12_best_113 : decode cX12_best 113 = .ok (.aload_n 0, 1) := by decide +kernel
theorem dX12_best_114 : decode cX12_best 114 = .ok (.getfield 7, 3) := by decide +kernel
theorem dX12_best_117 : decode cX12_best 117 = .ok (.bipush 7, 2) := by decide +kernel
theorem dX12_best_119 : decode cX12_best 119 = .ok (.iload_n 2, 1) := by decide +kernel
theorem dX12_best_120 : decode cX12_best 120 = .ok (.iadd, 1) := by decide +kernel
theorem dX12_best_121 : decode cX12_best 121 = .ok (.iaload, 1) := by decide +kernel
theorem dX12_best_122 : decode cX12_best 122 = .ok (.invokevirtual 458, 3) := by decide +kernel
theorem dX12_best_125 : decode cX12_best 125 = .ok (.lstore 10, 2) := by decide +kernel
theorem dX12_best_127 : decode cX12_best 127 = .ok (.iconst 0, 1) := by decide +kernel
theorem dX12_best_128 : decode cX12_best 128 = .ok (.istore 12, 2) := by decide +kernel
theorem dX12_best_130 : decode cX12_best 130 = .ok (.iconst 0, 1) := by decide +kernel
theorem dX12_best_131 : decode cX12_best 131 = .ok (.istore 13, 2) := by decide +kernel
theorem dX12_best_133 : decode cX12_best 133 = .ok (.iload 13, 2) := by decide +kernel
theorem dX12_best_135 : decode cX12_best 135 = .ok (.aload_n 0, 1) := by decide +kernel
theorem dX12_best_136 : decode cX12_best 136 = .ok (.getfield 7, 3) := by decide +kernel
theorem dX12_best_139 : decode cX12_best 139 = .ok (.iconst 1, 1) := by decide +kernel
theorem dX12_best_140 : decode cX12_best 140 = .ok (.iaload, 1) := by decide +kernel
theorem dX12_best_141 : decode cX12_best 141 = .ok (.if_icmp .ge 70, 3) := by decide +kernel
theorem dX12_best_144 : decode cX12_best 144 = .ok (.iload 12, 2) := by decide +kernel
theorem dX12_best_146 : decode cX12_best 146 = .ok (.iload 13, 2) := by decide +kernel
theorem dX12_best_148 : decode cX12_best 148 = .ok (.iload 9, 2) := by decide +kernel
theorem dX12_best_150 : decode cX12_best 150 = .ok (.if_icmp .eq 23, 3) := by decide +kernel
theorem dX12_best_153 : decode cX12_best 153 = .ok (.aload_n 0, 1) := by decide +kernel
theorem dX12_best_154 : decode cX12_best 154 = .ok (.getfield 16, 3) := by decide +kernel
theorem dX12_best_157 : decode cX12_best 157 = .ok (.iload 13, 2) := by decide +kernel
theorem dX12_best_159 : decode cX12_best 159 = .ok (.laload, 1) := by decide +kernel
theorem dX12_best_160 : decode cX12_best 160 = .ok (.aload_n 0, 1) := by decide +kernel
theorem dX12_best_161 : decode cX12_best 161 = .ok (.getfield 16, 3) := by decide +kernel
theorem dX12_best_164 : decode cX12_best 164 = .ok (.iload 9, 2) := by decide +kernel
theorem dX12_best_166 : decode cX12_best 166 = .ok (.laload, 1) := by decide +kernel
theorem dX12_best_167 : decode cX12_best 167 = .ok (.invokestatic 199, 3) := by decide +kernel
theorem dX12_best_170 : decode cX12_best 170 = .ok (.ifCond .eq 31, 3) := by decide +kernel
theorem dX12_best_173 : decode cX12_best 173 = .ok (.aload_n 0, 1) := by decide +kernel
theorem dX12_best_174 : decode cX12_best 174 = .ok (.getfield 91, 3) := by decide +kernel
theorem dX12_best_177 : decode cX12_best 177 = .ok (.bipush 48, 2) := by decide +kernel
theorem dX12_best_179 : decode cX12_best 179 = .ok (.aload_n 0, 1) := by decide +kernel
theorem dX12_best_180 : decode cX12_best 180 = .ok (.getfield 7, 3) := by decide +kernel
theorem dX12_best_183 : decode cX12_best 183 = .ok (.iconst 0, 1) := by decide +kernel
theorem dX12_best_184 : decode cX12_best 184 = .ok (.iaload, 1) := by decide +kernel
theorem dX12_best_185 : decode cX12_best 185 = .ok (.bipush 39, 2) := by decide +kernel
theorem dX12_best_187 : decode cX12_best 187 = .ok (.iadd, 1) := by decide +kernel
theorem dX12_best_188 : decode cX12_best 188 = .ok (.imul, 1) := by decide +kernel
theorem dX12_best_189 : decode cX12_best 189 = .ok (.bipush 16, 2) := by decide +kernel
theorem dX12_best_191 : decode cX12_best 191 = .ok (.iload_n 1, 1) := by decide +kernel
theorem dX12_best_192 : decode cX12_best 192 = .ok (.imul, 1) := by decide +kernel
theorem dX12_best_193 : decode cX12_best 193 = .ok (.iadd, 1) := by decide +kernel
theorem dX12_best_194 : decode cX12_best 194 = .ok (.iload 13, 2) := by decide +kernel
theorem dX12_best_196 : decode cX12_best 196 = .ok (.iadd, 1) := by decide +kernel
theorem dX12_best_197 : decode cX12_best 197 = .ok (.iaload, 1) := by decide +kernel
theorem dX12_best_198 : decode cX12_best 198 = .ok (.goto 4, 3) := by decide +kernel
theorem dX12_best_201 : decode cX12_best 201 = .ok (.iconst 0, 1) := by decide +kernel
theorem dX12_best_202 : decode cX12_best 202 = .ok (.iadd, 1) := by decide +kernel
theorem dX12_best_203 : decode cX12_best 203 = .ok (.istore 12, 2) := by decide +kernel
theorem dX12_best_205 : decode cX12_best 205 = .ok (.iinc 13 1, 3) := by decide +kernel
theorem dX12_best_208 : decode cX12_best 208 = .ok (.goto (-75), 3) := by decide +kernel
theorem dX12_best_211 : decode cX12_best 211 = .ok (.iload 5, 2) := by decide +kernel
theorem dX12_best_213 : decode cX12_best 213 = .ok (.iconst (-1), 1) := by decide +kernel
theorem dX12_best_214 : decode cX12_best 214 = .ok (.if_icmp .eq 25, 3) := by decide +kernel
theorem dX12_best_217 : decode cX12_best 217 = .ok (.iload 12, 2) := by decide +kernel
theorem dX12_best_219 : decode cX12_best 219 = .ok (.iload 6, 2) := by decide +kernel
theorem dX12_best_221 : decode cX12_best 221 = .ok (.if_icmp .lt 18, 3) := by decide +kernel
theorem dX12_best_224 : decode cX12_best 224 = .ok (.iload 12, 2) := by decide +kernel
theorem dX12_best_226 : decode cX12_best 226 = .ok (.iload 6, 2) := by decide +kernel
theorem dX12_best_228 : decode cX12_best 228 = .ok (.if_icmp .ne 23, 3) := by decide +kernel
theorem dX12_best_231 : decode cX12_best 231 = .ok (.lload 10, 2) := by decide +kernel
theorem dX12_best_233 : decode cX12_best 233 = .ok (.lload 7, 2) := by decide +kernel
theorem dX12_best_235 : decode cX12_best 235 = .ok (.lcmp, 1) := by decide +kernel
theorem dX12_best_236 : decode cX12_best 236 = .ok (.ifCond .le 15, 3) := by decide +kernel
theorem dX12_best_239 : decode cX12_best 239 = .ok (.iload 9, 2) := by decide +kernel
theorem dX12_best_241 : decode cX12_best 241 = .ok (.istore 5, 2) := by decide +kernel
theorem dX12_best_243 : decode cX12_best 243 = .ok (.iload 12, 2) := by decide +kernel
theorem dX12_best_245 : decode cX12_best 245 = .ok (.istore 6, 2) := by decide +kernel
theorem dX12_best_247 : decode cX12_best 247 = .ok (.lload 10, 2) := by decide +kernel
theorem dX12_best_249 : decode cX12_best 249 = .ok (.lstore 7, 2) := by decide +kernel
theorem dX12_best_251 : decode cX12_best 251 = .ok (.iinc 9 1, 3) := by decide +kernel
theorem dX12_best_254 : decode cX12_best 254 = .ok (.goto (-184), 3) := by decide +kernel
theorem dX12_best_257 : decode cX12_best 257 = .ok (.iload 5, 2) := by decide +kernel
theorem dX12_best_259 : decode cX12_best 259 = .ok (.iconst (-1), 1) := by decide +kernel
theorem dX12_best_260 : decode cX12_best 260 = .ok (.if_icmp .eq 8, 3) := by decide +kernel
theorem dX12_best_263 : decode cX12_best 263 = .ok (.iload 4, 2) := by decide +kernel
theorem dX12_best_265 : decode cX12_best 265 = .ok (.ifCond .ne 8, 3) := by decide +kernel
theorem dX12_best_268 : decode cX12_best 268 = .ok (.iload 5, 2) := by decide +kernel
theorem dX12_best_270 : decode cX12_best 270 = .ok (.goto 5, 3) := by decide +kernel
theorem dX12_best_273 : decode cX12_best 273 = .ok (.iload 6, 2) := by decide +kernel
theorem dX12_best_275 : decode cX12_best 275 = .ok (.ireturn, 1) := by decide +kernel
theorem dX12_age_0 : decode cX12_age 0 = .ok (.aload_n 0, 1) := by decide +kernel
theorem dX12_age_1 : decode cX12_age 1 = .ok (.iload_n 1, 1) := by decide +kernel
theorem dX12_age_2 : decode cX12_age 2 = .ok (.invokevirtual 182, 3) := by decide +kernel
theorem dX12_age_5 : decode cX12_age 5 = .ok (.ifCond .eq 22, 3) := by decide +kernel
theorem dX12_age_8 : decode cX12_age 8 = .ok (.iload_n 2, 1) := by decide +kernel
theorem dX12_age_9 : decode cX12_age 9 = .ok (.iconst 1, 1) := by decide +kernel
theorem dX12_age_10 : decode cX12_age 10 = .ok (.bipush 100, 2) := by decide +kernel
theorem dX12_age_12 : decode cX12_age 12 = .ok (.invokestatic 152, 3) := by decide +kernel
theorem dX12_age_15 : decode cX12_age 15 = .ok (.ifCond .eq 12, 3) := by decide +kernel
theorem dX12_age_18 : decode cX12_age 18 = .ok (.iload_n 3, 1) := by decide +kernel
theorem dX12_age_19 : decode cX12_age 19 = .ok (.iconst 0, 1) := by decide +kernel
theorem dX12_age_20 : decode cX12_age 20 = .ok (.iconst 2, 1) := by decide +kernel
theorem dX12_age_21 : decode cX12_age 21 = .ok (.invokestatic 152, 3) := by decide +kernel
theorem dX12_age_24 : decode cX12_age 24 = .ok (.ifCond .ne 7, 3) := by decide +kernel
theorem dX12_age_27 : decode cX12_age 27 = .ok (.sipush (-1000), 3) := by decide +kernel
theorem dX12_age_30 : decode cX12_age 30 = .ok (.ireturn, 1) := by decide +kernel
theorem dX12_age_31 : decode cX12_age 31 = .ok (.aload_n 0, 1) := by decide +kernel
theorem dX12_age_32 : decode cX12_age 32 = .ok (.invokevirtual 464, 3) := by decide +kernel
theorem dX12_age_35 : decode cX12_age 35 = .ok (.aload_n 0, 1) := by decide +kernel
theorem dX12_age_36 : decode cX12_age 36 = .ok (.getfield 7, 3) := by decide +kernel
theorem dX12_age_39 : decode cX12_age 39 = .ok (.iconst 0, 1) := by decide +kernel
theorem dX12_age_40 : decode cX12_age 40 = .ok (.iaload, 1) := by decide +kernel
theorem dX12_age_41 : decode cX12_age 41 = .ok (.iconst 1, 1) := by decide +kernel
theorem dX12_age_42 : decode cX12_age 42 = .ok (.isub, 1) := by decide +kernel
theorem dX12_age_43 : decode cX12_age 43 = .ok (.istore 4, 2) := by decide +kernel
theorem dX12_age_45 : decode cX12_age 45 = .ok (.bipush (-40), 2) := by decide +kernel
theorem dX12_age_47 : decode cX12_age 47 = .ok (.iload 4, 2) := by decide +kernel
theorem dX12_age_49 : decode cX12_age 49 = .ok (.aload_n 0, 1) := by decide +kernel
theorem dX12_age_50 : decode cX12_age 50 = .ok (.getfield 7, 3) := by decide +kernel
theorem dX12_age_53 : decode cX12_age 53 = .ok (.bipush 6, 2) := by decide +kernel
theorem dX12_age_55 : decode cX12_age 55 = .ok (.iaload, 1) := by decide +kernel
theorem dX12_age_56 : decode cX12_age 56 = .ok (.isub, 1) := by decide +kernel
theorem dX12_age_57 : decode cX12_age 57 = .ok (.iconst 1, 1) := by decide +kernel
theorem dX12_age_58 : decode cX12_age 58 = .ok (.iadd, 1) := by decide +kernel
theorem dX12_age_59 : decode cX12_age 59 = .ok (.invokestatic 410, 3) := by decide +kernel
theorem dX12_age_62 : decode cX12_age 62 = .ok (.istore 5, 2) := by decide +kernel
theorem dX12_age_64 : decode cX12_age 64 = .ok (.aload_n 0, 1) := by decide +kernel
theorem dX12_age_65 : decode cX12_age 65 = .ok (.iload_n 1, 1) := by decide +kernel
theorem dX12_age_66 : decode cX12_age 66 = .ok (.iload 4, 2) := by decide +kernel
theorem dX12_age_68 : decode cX12_age 68 = .ok (.invokevirtual 192, 3) := by decide +kernel
theorem dX12_age_71 : decode cX12_age 71 = .ok (.istore 6, 2) := by decide +kernel
theorem dX12_age_73 : decode cX12_age 73 = .ok (.iload 6, 2) := by decide +kernel
theorem dX12_age_75 : decode cX12_age 75 = .ok (.ifCond .ne 7, 3) := by decide +kernel
theorem dX12_age_78 : decode cX12_age 78 = .ok (.sipush (-1000), 3) := by decide +kernel
theorem dX12_age_81 : decode cX12_age 81 = .ok (.ireturn, 1) := by decide +kernel
theorem dX12_age_82 : decode cX12_age 82 = .ok (.iload_n 3, 1) := by decide +kernel
theorem dX12_age_83 : decode cX12_age 83 = .ok (.iconst 2, 1) := by decide +kernel
theorem dX12_age_84 : decode cX12_age 84 = .ok (.if_icmp .ne 46, 3) := by decide +kernel
theorem dX12_age_87 : decode cX12_age 87 = .ok (.iload 5, 2) := by decide +kernel
theorem dX12_age_89 : decode cX12_age 89 = .ok (.istore 7, 2) := by decide +kernel
theorem dX12_age_91 : decode cX12_age 91 = .ok (.aload_n 0, 1) := by decide +kernel
theorem dX12_age_92 : decode cX12_age 92 = .ok (.iload 7, 2) := by decide +kernel
theorem dX12_age_94 : decode cX12_age 94 = .ok (.iload_n 1, 1) := by decide +kernel
theorem dX12_age_95 : decode cX12_age 95 = .ok (.invokevirtual 407, 3) := by decide +kernel
theorem dX12_age_98 : decode cX12_age 98 = .ok (.istore 8, 2) := by decide +kernel
theorem dX12_age_100 : decode cX12_age 100 = .ok (.iconst 2, 1) := by decide +kernel
theorem dX12_age_101 : decode cX12_age 101 = .ok (.iload 8, 2) := by decide +kernel
theorem dX12_age_103 : decode cX12_age 103 = .ok (.imul, 1) := by decide +kernel
theorem dX12_age_104 : decode cX12_age 104 = .ok (.iload 6, 2) := by decide +kernel
theorem dX12_age_106 : decode cX12_age 106 = .ok (.if_icmp .ge 21, 3) := by decide +kernel
theorem dX12_age_109 : decode cX12_age 109 = .ok (.iinc 7 1, 3) := by decide +kernel
theorem dX12_age_112 : decode cX12_age 112 = .ok (.iload 8, 2) := by decide +kernel
theorem dX12_age_114 : decode cX12_age 114 = .ok (.aload_n 0, 1) := by decide +kernel
theorem dX12_age_115 : decode cX12_age 115 = .ok (.iload 7, 2) := by decide +kernel
theorem dX12_age_117 : decode cX12_age 117 = .ok (.iload_n 1, 1) := by decide +kernel
theorem dX12_age_118 : decode cX12_age 118 = .ok (.invokevirtual 407, 3) := by decide +kernel
theorem dX12_age_121 : decode cX12_age 121 = .ok (.iadd, 1) := by decide +kernel
theorem dX12_age_122 : decode cX12_age 122 = .ok (.istore 8, 2) := by decide +kernel
theorem dX12_age_124 : decode cX12_age 124 = .ok (.goto (-24), 3) := by decide +kernel
theorem dX12_age_127 : decode cX12_age 127 = .ok (.iload 7, 2) := by decide +kernel
theorem dX12_age_129 : decode cX12_age 129 = .ok (.ireturn, 1) := by decide +kernel
theorem dX12_age_130 : decode cX12_age 130 = .ok (.iconst 1, 1) := by decide +kernel
theorem dX12_age_131 : decode cX12_age 131 = .ok (.istore 7, 2) := by decide +kernel
theorem dX12_age_133 : decode cX12_age 133 = .ok (.iload 7, 2) := by decide +kernel
theorem dX12_age_135 : decode cX12_age 135 = .ok (.iload 4, 2) := by decide +kernel
theorem dX12_age_137 : decode cX12_age 137 = .ok (.iload 5, 2) := by decide +kernel
theorem dX12_age_139 : decode cX12_age 139 = .ok (.isub, 1) := by decide +kernel
theorem dX12_age_140 : decode cX12_age 140 = .ok (.iconst 1, 1) := by decide +kernel
theorem dX12_age_141 : decode cX12_age 141 = .ok (.iadd, 1) := by decide +kernel
theorem dX12_age_142 : decode cX12_age 142 = .ok (.if_icmp .gt 95, 3) := by decide +kernel
theorem dX12_age_145 : decode cX12_age 145 = .ok (.iload 5, 2) := by decide +kernel
theorem dX12_age_147 : decode cX12_age 147 = .ok (.istore 8, 2) := by decide +kernel
theorem dX12_age_149 : decode cX12_age 149 = .ok (.iload 8, 2) := by decide +kernel
theorem dX12_age_151 : decode cX12_age 151 = .ok (.iload 7, 2) := by decide +kernel
theorem dX12_age_153 : decode cX12_age 153 = .ok (.iadd, 1) := by decide +kernel
theorem dX12_age_154 : decode cX12_age 154 = .ok (.iconst 1, 1) := by decide +kernel
theorem dX12_age_155 : decode cX12_age 155 = .ok (.isub, 1) := by decide +kernel
theorem dX12_age_156 : decode cX12_age 156 = .ok (.iload 4, 2) := by decide +kernel
theorem dX12_age_158 : decode cX12_age 158 = .ok (.if_icmp .gt 73, 3) := by decide +kernel
theorem dX12_age_161 : decode cX12_age 161 = .ok (.iconst 0, 1) := by decide +kernel
theorem dX12_age_162 : decode cX12_age 162 = .ok (.istore 9, 2) := by decide +kernel
theorem dX12_age_164 : decode cX12_age 164 = .ok (.iload 8, 2) := by decide +kernel
theorem dX12_age_166 : decode cX12_age 166 = .ok (.istore 10, 2) := by decide +kernel
theorem dX12_age_168 : decode cX12_age 168 = .ok (.iload 10, 2) := by decide +kernel
theorem dX12_age_170 : decode cX12_age 170 = .ok (.iload 8, 2) := by decide +kernel
theorem dX12_age_172 : decode cX12_age 172 = .ok (.iload 7, 2) := by decide +kernel
theorem dX12_age_174 : decode cX12_age 174 = .ok (.iadd, 1) := by decide +kernel
theorem dX12_age_175 : decode cX12_age 175 = .ok (.if_icmp .ge 21, 3) := by decide +kernel
theorem dX12_age_178 : decode cX12_age 178 = .ok (.iload 9, 2) := by decide +kernel
theorem dX12_age_180 : decode cX12_age 180 = .ok (.aload_n 0, 1) := by decide +kernel
theorem dX12_age_181 : decode cX12_age 181 = .ok (.iload 10, 2) := by decide +kernel
theorem dX12_age_183 : decode cX12_age 183 = .ok (.iload_n 1, 1) := by decide +kernel
theorem dX12_age_184 : decode cX12_age 184 = .ok (.invokevirtual 407, 3) := by decide +kernel
theorem dX12_age_187 : decode cX12_age 187 = .ok (.iadd, 1) := by decide +kernel
theorem dX12_age_188 : decode cX12_age 188 = .ok (.istore 9, 2) := by decide +kernel
theorem dX12_age_190 : decode cX12_age 190 = .ok (.iinc 10 1, 3) := by decide +kernel
theorem dX12_age_193 : decode cX12_age 193 = .ok (.goto (-25), 3) := by decide +kernel
theorem dX12_age_196 : decode cX12_age 196 = .ok (.bipush 100, 2) := by decide +kernel
theorem dX12_age_198 : decode cX12_age 198 = .ok (.iload 9, 2) := by decide +kernel
theorem dX12_age_200 : decode cX12_age 200 = .ok (.imul, 1) := by decide +kernel
theorem dX12_age_201 : decode cX12_age 201 = .ok (.iload_n 2, 1) := by decide +kernel
theorem dX12_age_202 : decode cX12_age 202 = .ok (.iload 6, 2) := by decide +kernel
theorem dX12_age_204 : decode cX12_age 204 = .ok (.imul, 1) := by decide +kernel
theorem dX12_age_205 : decode cX12_age 205 = .ok (.if_icmp .lt 20, 3) := by decide +kernel
theorem dX12_age_208 : decode cX12_age 208 = .ok (.iload_n 3, 1) := by decide +kernel
theorem dX12_age_209 : decode cX12_age 209 = .ok (.ifCond .ne 8, 3) := by decide +kernel
theorem dX12_age_212 : decode cX12_age 212 = .ok (.iload 8, 2) := by decide +kernel
theorem dX12_age_214 : decode cX12_age 214 = .ok (.goto 10, 3) := by decide +kernel
theorem dX12_age_217 : decode cX12_age 217 = .ok (.iload 8, 2) := by decide +kernel
theorem dX12_age_219 : decode cX12_age 219 = .ok (.iload 7, 2) := by decide +kernel
theorem dX12_age_221 : decode cX12_age 221 = .ok (.iadd, 1) := by decide +kernel
theorem dX12_age_222 : decode cX12_age 222 = .ok (.iconst 1, 1) := by decide +kernel
theorem dX12_age_223 : decode cX12_age 223 = .ok (.isub, 1) := by decide +kernel
theorem dX12_age_224 : decode cX12_age 224 = .ok (.ireturn, 1) := by decide +kernel
theorem dX12_age_225 : decode cX12_age 225 = .ok (.iinc 8 1, 3) := by decide +kernel
theorem dX12_age_228 : decode cX12_age 228 = .ok (.goto (-79), 3) := by decide +kernel
theorem dX12_age_231 : decode cX12_age 231 = .ok (.iinc 7 1, 3) := by decide +kernel
theorem dX12_age_234 : decode cX12_age 234 = .ok (.goto (-101), 3) := by decide +kernel
theorem dX12_age_237 : decode cX12_age 237 = .ok (.sipush (-1000), 3) := by decide +kernel
theorem dX12_age_240 : decode cX12_age 240 = .ok (.ireturn, 1) := by decide +kernel
theorem dX12_livingIn_0 : decode cX12_livingIn 0 = .ok (.lconst 0, 1) := by decide +kernel
theorem dX12_livingIn_1 : decode cX12_livingIn 1 = .ok (.lstore_n 3, 1) := by decide +kernel
theorem dX12_livingIn_2 : decode cX12_livingIn 2 = .ok (.aload_n 0, 1) := by decide +kernel
theorem dX12_livingIn_3 : decode cX12_livingIn 3 = .ok (.getfield 7, 3) := by decide +kernel
theorem dX12_livingIn_6 : decode cX12_livingIn 6 = .ok (.iconst 0, 1) := by decide +kernel
theorem dX12_livingIn_7 : decode cX12_livingIn 7 = .ok (.iaload, 1) := by decide +kernel
theorem dX12_livingIn_8 : decode cX12_livingIn 8 = .ok (.iconst 1, 1) := by decide +kernel
theorem dX12_livingIn_9 : decode cX12_livingIn 9 = .ok (.isub, 1) := by decide +kernel
theorem dX12_livingIn_10 : decode cX12_livingIn 10 = .ok (.istore 5, 2) := by decide +kernel
theorem dX12_livingIn_12 : decode cX12_livingIn 12 = .ok (.bipush (-40), 2) := by decide +kernel
theorem dX12_livingIn_14 : decode cX12_livingIn 14 = .ok (.iload 5, 2) := by decide +kernel
theorem dX12_livingIn_16 : decode cX12_livingIn 16 = .ok (.aload_n 0, 1) := by decide +kernel
theorem dX12_livingIn_17 : decode cX12_livingIn 17 = .ok (.getfield 7, 3) := by decide +kernel
theorem dX12_livingIn_20 : decode cX12_livingIn 20 = .ok (.bipush 6, 2) := by decide +kernel
theorem dX12_livingIn_22 : decode cX12_livingIn 22 = .ok (.iaload, 1) := by decide +kernel
theorem dX12_livingIn_23 : decode cX12_livingIn 23 = .ok (.isub, 1) := by decide +kernel
theorem dX12_livingIn_24 : decode cX12_livingIn 24 = .ok (.iconst 1, 1) := by decide +kernel
theorem dX12_livingIn_25 : decode cX12_livingIn 25 = .ok (.iadd, 1) := by decide +kernel
theorem dX12_livingIn_26 : decode cX12_livingIn 26 = .ok (.invokestatic 410, 3) := by decide +kernel
theorem dX12_livingIn_29 : decode cX12_livingIn 29 = .ok (.istore 6, 2) := by decide +kernel
theorem dX12_livingIn_31 : decode cX12_livingIn 31 = .ok (.iload 6, 2) := by decide +kernel
theorem dX12_livingIn_33 : decode cX12_livingIn 33 = .ok (.iload 5, 2) := by decide +kernel
theorem dX12_livingIn_35 : decode cX12_livingIn 35 = .ok (.if_icmp .gt 69, 3) := by decide +kernel
theorem dX12_livingIn_38 : decode cX12_livingIn 38 = .ok (.iconst 0, 1) := by decide +kernel
theorem dX12_livingIn_39 : decode cX12_livingIn 39 = .ok (.istore 7, 2) := by decide +kernel
theorem dX12_livingIn_41 : decode cX12_livingIn 41 = .ok (.iload 7, 2) := by decide +kernel
theorem dX12_livingIn_43 : decode cX12_livingIn 43 = .ok (.aload_n 0, 1) := by decide +kernel
theorem dX12_livingIn_44 : decode cX12_livingIn 44 = .ok (.getfield 7, 3) := by decide +kernel
theorem dX12_livingIn_47 : decode cX12_livingIn 47 = .ok (.iconst 1, 1) := by decide +kernel
theorem dX12_livingIn_48 : decode cX12_livingIn 48 = .ok (.iaload, 1) := by decide +kernel
theorem dX12_livingIn_49 : decode cX12_livingIn 49 = .ok (.if_icmp .ge 49, 3) := by decide +kernel
theorem dX12_livingIn_52 : decode cX12_livingIn 52 = .ok (.lload_n 3, 1) := by decide +kernel
theorem dX12_livingIn_53 : decode cX12_livingIn 53 = .ok (.iload_n 2, 1) := by decide +kernel
theorem dX12_livingIn_54 : decode cX12_livingIn 54 = .ok (.iconst (-1), 1) := by decide +kernel
theorem dX12_livingIn_55 : decode cX12_livingIn 55 = .ok (.if_icmp .eq 9, 3) := by decide +kernel
theorem dX12_livingIn_58 : decode cX12_livingIn 58 = .ok (.iload_n 2, 1) := by decide +kernel
theorem dX12_livingIn_59 : decode cX12_livingIn 59 = .ok (.iload 7, 2) := by decide +kernel
theorem dX12_livingIn_61 : decode cX12_livingIn 61 = .ok (.if_icmp .ne 28, 3) := by decide +kernel
theorem dX12_livingIn_64 : decode cX12_livingIn 64 = .ok (.aload_n 0, 1) := by decide +kernel
theorem dX12_livingIn_65 : decode cX12_livingIn 65 = .ok (.getfield 91, 3) := by decide +kernel
theorem dX12_livingIn_68 : decode cX12_livingIn 68 = .ok (.bipush 48, 2) := by decide +kernel
theorem dX12_livingIn_70 : decode cX12_livingIn 70 = .ok (.iload 6, 2) := by decide +kernel
theorem dX12_livingIn_72 : decode cX12_livingIn 72 = .ok (.bipush 40, 2) := by decide +kernel
theorem dX12_livingIn_74 : decode cX12_livingIn 74 = .ok (.iadd, 1) := by decide +kernel
theorem dX12_livingIn_75 : decode cX12_livingIn 75 = .ok (.imul, 1) := by decide +kernel
theorem dX12_livingIn_76 : decode cX12_livingIn 76 = .ok (.bipush 16, 2) := by decide +kernel
theorem dX12_livingIn_78 : decode cX12_livingIn 78 = .ok (.iload_n 1, 1) := by decide +kernel
theorem dX12_livingIn_79 : decode cX12_livingIn 79 = .ok (.imul, 1) := by decide +kernel
theorem dX12_livingIn_80 : decode cX12_livingIn 80 = .ok (.iadd, 1) := by decide +kernel
theorem dX12_livingIn_81 : decode cX12_livingIn 81 = .ok (.iload 7, 2) := by decide +kernel
theorem dX12_livingIn_83 : decode cX12_livingIn 83 = .ok (.iadd, 1) := by decide +kernel
theorem dX12_livingIn_84 : decode cX12_livingIn 84 = .ok (.iaload, 1) := by decide +kernel
theorem dX12_livingIn_85 : decode cX12_livingIn 85 = .ok (.i2l, 1) := by decide +kernel
theorem dX12_livingIn_86 : decode cX12_livingIn 86 = .ok (.goto 4, 3) := by decide +kernel
theorem dX12_livingIn_89 : decode cX12_livingIn 89 = .ok (.lconst 0, 1) := by decide +kernel
theorem dX12_livingIn_90 : decode cX12_livingIn 90 = .ok (.ladd, 1) := by decide +kernel
theorem dX12_livingIn_91 : decode cX12_livingIn 91 = .ok (.lstore_n 3, 1) := by decide +kernel
theorem dX12_livingIn_92 : decode cX12_livingIn 92 = .ok (.iinc 7 1, 3) := by decide +kernel
theorem dX12_livingIn_95 : decode cX12_livingIn 95 = .ok (.goto (-54), 3) := by decide +kernel
theorem dX12_livingIn_98 : decode cX12_livingIn 98 = .ok (.iinc 6 1, 3) := by decide +kernel
theorem dX12_livingIn_101 : decode cX12_livingIn 101 = .ok (.goto (-70), 3) := by decide +kernel
theorem dX12_livingIn_104 : decode cX12_livingIn 104 = .ok (.lload_n 3, 1) := by decide +kernel
theorem dX12_livingIn_105 : decode cX12_livingIn 105 = .ok (.lreturn, 1) := by decide +kernel
theorem dX12_guess_0 : decode cX12_guess 0 = .ok (.aload_n 0, 1) := by decide +kernel
theorem dX12_guess_1 : decode cX12_guess 1 = .ok (.iload_n 1, 1) := by decide +kernel
theorem dX12_guess_2 : decode cX12_guess 2 = .ok (.invokevirtual 182, 3) := by decide +kernel
theorem dX12_guess_5 : decode cX12_guess 5 = .ok (.ifCond .ne 5, 3) := by decide +kernel
theorem dX12_guess_8 : decode cX12_guess 8 = .ok (.iconst (-1), 1) := by decide +kernel
theorem dX12_guess_9 : decode cX12_guess 9 = .ok (.ireturn, 1) := by decide +kernel
theorem dX12_guess_10 : decode cX12_guess 10 = .ok (.aload_n 0, 1) := by decide +kernel
theorem dX12_guess_11 : decode cX12_guess 11 = .ok (.invokevirtual 464, 3) := by decide +kernel
theorem dX12_guess_14 : decode cX12_guess 14 = .ok (.iconst (-1), 1) := by decide +kernel
theorem dX12_guess_15 : decode cX12_guess 15 = .ok (.istore_n 2, 1) := by decide +kernel
theorem dX12_guess_16 : decode cX12_guess 16 = .ok (.iconst 0, 1) := by decide +kernel
theorem dX12_guess_17 : decode cX12_guess 17 = .ok (.istore_n 3, 1) := by decide +kernel
theorem dX12_guess_18 : decode cX12_guess 18 = .ok (.iload_n 3, 1) := by decide +kernel
theorem dX12_guess_19 : decode cX12_guess 19 = .ok (.iconst 3, 1) := by decide +kernel
theorem dX12_guess_20 : decode cX12_guess 20 = .ok (.if_icmp .ge 57, 3) := by decide +kernel
theorem dX12_guess_23 : decode cX12_guess 23 = .ok (.aload_n 0, 1) := by decide +kernel
theorem dX12_guess_24 : decode cX12_guess 24 = .ok (.iload_n 3, 1) := by decide +kernel
theorem dX12_guess_25 : decode cX12_guess 25 = .ok (.iload_n 1, 1) := by decide +kernel
theorem dX12_guess_26 : decode cX12_guess 26 = .ok (.invokevirtual 509, 3) := by decide +kernel
theorem dX12_guess_29 : decode cX12_guess 29 = .ok (.lstore 4, 2) := by decide +kernel
theorem dX12_guess_31 : decode cX12_guess 31 = .ok (.lload 4, 2) := by decide +kernel
theorem dX12_guess_33 : decode cX12_guess 33 = .ok (.lconst 0, 1) := by decide +kernel
theorem dX12_guess_34 : decode cX12_guess 34 = .ok (.lcmp, 1) := by decide +kernel
theorem dX12_guess_35 : decode cX12_guess 35 = .ok (.ifCond .le 36, 3) := by decide +kernel
theorem dX12_guess_38 : decode cX12_guess 38 = .ok (.iload_n 2, 1) := by decide +kernel
theorem dX12_guess_39 : decode cX12_guess 39 = .ok (.iconst (-1), 1) := by decide +kernel
theorem dX12_guess_40 : decode cX12_guess 40 = .ok (.if_icmp .eq 29, 3) := by decide +kernel
theorem dX12_guess_43 : decode cX12_guess 43 = .ok (.lload 4, 2) := by decide +kernel
theorem dX12_guess_45 : decode cX12_guess 45 = .ok (.aload_n 0, 1) := by decide +kernel
theorem dX12_guess_46 : decode cX12_guess 46 = .ok (.iload_n 2, 1) := by decide +kernel
theorem dX12_guess_47 : decode cX12_guess 47 = .ok (.iconst (-1), 1) := by decide +kernel
theorem dX12_guess_48 : decode cX12_guess 48 = .ok (.invokevirtual 509, 3) := by decide +kernel
theorem dX12_guess_51 : decode cX12_guess 51 = .ok (.lmul, 1) := by decide +kernel
theorem dX12_guess_52 : decode cX12_guess 52 = .ok (.aload_n 0, 1) := by decide +kernel
theorem dX12_guess_53 : decode cX12_guess 53 = .ok (.iload_n 2, 1) := by decide +kernel
theorem dX12_guess_54 : decode cX12_guess 54 = .ok (.iload_n 1, 1) := by decide +kernel
theorem dX12_guess_55 : decode cX12_guess 55 = .ok (.invokevirtual 509, 3) := by decide +kernel
theorem dX12_guess_58 : decode cX12_guess 58 = .ok (.aload_n 0, 1) := by decide +kernel
theorem dX12_guess_59 : decode cX12_guess 59 = .ok (.iload_n 3, 1) := by decide +kernel
theorem dX12_guess_60 : decode cX12_guess 60 = .ok (.iconst (-1), 1) := by decide +kernel
theorem dX12_guess_61 : decode cX12_guess 61 = .ok (.invokevirtual 509, 3) := by decide +kernel
theorem dX12_guess_64 : decode cX12_guess 64 = .ok (.lmul, 1) := by decide +kernel
theorem dX12_guess_65 : decode cX12_guess 65 = .ok (.lcmp, 1) := by decide +kernel
theorem dX12_guess_66 : decode cX12_guess 66 = .ok (.ifCond .le 5, 3) := by decide +kernel
theorem dX12_guess_69 : decode cX12_guess 69 = .ok (.iload_n 3, 1) := by decide +kernel
theorem dX12_guess_70 : decode cX12_guess 70 = .ok (.istore_n 2, 1) := by decide +kernel
theorem dX12_guess_71 : decode cX12_guess 71 = .ok (.iinc 3 1, 3) := by decide +kernel
theorem dX12_guess_74 : decode cX12_guess 74 = .ok (.goto (-56), 3) := by decide +kernel
theorem dX12_guess_77 : decode cX12_guess 77 = .ok (.iload_n 2, 1) := by decide +kernel
theorem dX12_guess_78 : decode cX12_guess 78 = .ok (.ireturn, 1) := by decide +kernel
theorem dX12_adds_0 : decode cX12_adds 0 = .ok (.iload_n 1, 1) := by decide +kernel
theorem dX12_adds_1 : decode cX12_adds 1 = .ok (.istore 4, 2) := by decide +kernel
theorem dX12_adds_3 : decode cX12_adds 3 = .ok (.iload 4, 2) := by decide +kernel
theorem dX12_adds_5 : decode cX12_adds 5 = .ok (.ifCond .lt 105, 3) := by decide +kernel
theorem dX12_adds_8 : decode cX12_adds 8 = .ok (.lconst 0, 1) := by decide +kernel
theorem dX12_adds_9 : decode cX12_adds 9 = .ok (.lstore 5, 2) := by decide +kernel
theorem dX12_adds_11 : decode cX12_adds 11 = .ok (.iconst 0, 1) := by decide +kernel
theorem dX12_adds_12 : decode cX12_adds 12 = .ok (.istore 7, 2) := by decide +kernel
theorem dX12_adds_14 : decode cX12_adds 14 = .ok (.iload 7, 2) := by decide +kernel
theorem dX12_adds_16 : decode cX12_adds 16 = .ok (.bipush 30, 2) := by decide +kernel
theorem dX12_adds_18 : decode cX12_adds 18 = .ok (.if_icmp .ge 86, 3) := by decide +kernel
theorem dX12_adds_21 : decode cX12_adds 21 = .ok (.aload_n 0, 1) := by decide +kernel
theorem dX12_adds_22 : decode cX12_adds 22 = .ok (.getfield 133, 3) := by decide +kernel
theorem dX12_adds_25 : decode cX12_adds 25 = .ok (.bipush 30, 2) := by decide +kernel
theorem dX12_adds_27 : decode cX12_adds 27 = .ok (.iload 4, 2) := by decide +kernel
theorem dX12_adds_29 : decode cX12_adds 29 = .ok (.imul, 1) := by decide +kernel
theorem dX12_adds_30 : decode cX12_adds 30 = .ok (.iload 7, 2) := by decide +kernel
theorem dX12_adds_32 : decode cX12_adds 32 = .ok (.iadd, 1) := by decide +kernel
theorem dX12_adds_33 : decode cX12_adds 33 = .ok (.laload, 1) := by decide +kernel
theorem dX12_adds_34 : decode cX12_adds 34 = .ok (.iload_n 3, 1) := by decide +kernel
theorem dX12_adds_35 : decode cX12_adds 35 = .ok (.i2l, 1) := by decide +kernel
theorem dX12_adds_36 : decode cX12_adds 36 = .ok (.lmul, 1) := by decide +kernel
theorem dX12_adds_37 : decode cX12_adds 37 = .ok (.lload 5, 2) := by decide +kernel
theorem dX12_adds_39 : decode cX12_adds 39 = .ok (.ladd, 1) := by decide +kernel
theorem dX12_adds_40 : decode cX12_adds 40 = .ok (.iload 4, 2) := by decide +kernel
theorem dX12_adds_42 : decode cX12_adds 42 = .ok (.ifCond .le 25, 3) := by decide +kernel
theorem dX12_adds_45 : decode cX12_adds 45 = .ok (.aload_n 0, 1) := by decide +kernel
theorem dX12_adds_46 : decode cX12_adds 46 = .ok (.getfield 133, 3) := by decide +kernel
theorem dX12_adds_49 : decode cX12_adds 49 = .ok (.bipush 30, 2) := by decide +kernel
theorem dX12_adds_51 : decode cX12_adds 51 = .ok (.iload 4, 2) := by decide +kernel
theorem dX12_adds_53 : decode cX12_adds 53 = .ok (.imul, 1) := by decide +kernel
theorem dX12_adds_54 : decode cX12_adds 54 = .ok (.bipush 30, 2) := by decide +kernel
theorem dX12_adds_56 : decode cX12_adds 56 = .ok (.isub, 1) := by decide +kernel
theorem dX12_adds_57 : decode cX12_adds 57 = .ok (.iload 7, 2) := by decide +kernel
theorem dX12_adds_59 : decode cX12_adds 59 = .ok (.iadd, 1) := by decide +kernel
theorem dX12_adds_60 : decode cX12_adds 60 = .ok (.laload, 1) := by decide +kernel
theorem dX12_adds_61 : decode cX12_adds 61 = .ok (.iload_n 2, 1) := by decide +kernel
theorem dX12_adds_62 : decode cX12_adds 62 = .ok (.i2l, 1) := by decide +kernel
theorem dX12_adds_63 : decode cX12_adds 63 = .ok (.lmul, 1) := by decide +kernel
theorem dX12_adds_64 : decode cX12_adds 64 = .ok (.goto 4, 3) := by decide +kernel
theorem dX12_adds_67 : decode cX12_adds 67 = .ok (.lconst 0, 1) := by decide +kernel
theorem dX12_adds_68 : decode cX12_adds 68 = .ok (.ladd, 1) := by decide +kernel
theorem dX12_adds_69 : decode cX12_adds 69 = .ok (.lstore 8, 2) := by decide +kernel
theorem dX12_adds_71 : decode cX12_adds 71 = .ok (.aload_n 0, 1) := by decide +kernel
theorem dX12_adds_72 : decode cX12_adds 72 = .ok (.getfield 133, 3) := by decide +kernel
theorem dX12_adds_75 : decode cX12_adds 75 = .ok (.bipush 30, 2) := by decide +kernel
theorem dX12_adds_77 : decode cX12_adds 77 = .ok (.iload 4, 2) := by decide +kernel
theorem dX12_adds_79 : decode cX12_adds 79 = .ok (.imul, 1) := by decide +kernel
theorem dX12_adds_80 : decode cX12_adds 80 = .ok (.iload 7, 2) := by decide +kernel
theorem dX12_adds_82 : decode cX12_adds 82 = .ok (.iadd, 1) := by decide +kernel
theorem dX12_adds_83 : decode cX12_adds 83 = .ok (.lload 8, 2) := by decide +kernel
theorem dX12_adds_85 : decode cX12_adds 85 = .ok (.ldc2_w 389, 3) := by decide +kernel
theorem dX12_adds_88 : decode cX12_adds 88 = .ok (.lrem, 1) := by decide +kernel
theorem dX12_adds_89 : decode cX12_adds 89 = .ok (.lastore, 1) := by decide +kernel
theorem dX12_adds_90 : decode cX12_adds 90 = .ok (.lload 8, 2) := by decide +kernel
theorem dX12_adds_92 : decode cX12_adds 92 = .ok (.ldc2_w 389, 3) := by decide +kernel
theorem dX12_adds_95 : decode cX12_adds 95 = .ok (.ldiv, 1) := by decide +kernel
theorem dX12_adds_96 : decode cX12_adds 96 = .ok (.lstore 5, 2) := by decide +kernel
theorem dX12_adds_98 : decode cX12_adds 98 = .ok (.iinc 7 1, 3) := by decide +kernel
theorem dX12_adds_101 : decode cX12_adds 101 = .ok (.goto (-87), 3) := by decide +kernel
theorem dX12_adds_104 : decode cX12_adds 104 = .ok (.iinc 4 (-1), 3) := by decide +kernel
theorem dX12_adds_107 : decode cX12_adds 107 = .ok (.goto (-104), 3) := by decide +kernel
theorem dX12_adds_110 : decode cX12_adds 110 = .ok (.return_, 1) := by decide +kernel
theorem dX12_sums_0 : decode cX12_sums 0 = .ok (.iconst 0, 1) := by decide +kernel
theorem dX12_sums_1 : decode cX12_sums 1 = .ok (.istore_n 3, 1) := by decide +kernel
theorem dX12_sums_2 : decode cX12_sums 2 = .ok (.iload_n 3, 1) := by decide +kernel
theorem dX12_sums_3 : decode cX12_sums 3 = .ok (.bipush 30, 2) := by decide +kernel
theorem dX12_sums_5 : decode cX12_sums 5 = .ok (.if_icmp .ge 16, 3) := by decide +kernel
theorem dX12_sums_8 : decode cX12_sums 8 = .ok (.aload_n 0, 1) := by decide +kernel
theorem dX12_sums_9 : decode cX12_sums 9 = .ok (.getfield 136, 3) := by decide +kernel
theorem dX12_sums_12 : decode cX12_sums 12 = .ok (.iload_n 3, 1) := by decide +kernel
theorem dX12_sums_13 : decode cX12_sums 13 = .ok (.lconst 0, 1) := by decide +kernel
theorem dX12_sums_14 : decode cX12_sums 14 = .ok (.lastore, 1) := by decide +kernel
theorem dX12_sums_15 : decode cX12_sums 15 = .ok (.iinc 3 1, 3) := by decide +kernel
theorem dX12_sums_18 : decode cX12_sums 18 = .ok (.goto (-16), 3) := by decide +kernel
theorem dX12_sums_21 : decode cX12_sums 21 = .ok (.iload_n 1, 1) := by decide +kernel
theorem dX12_sums_22 : decode cX12_sums 22 = .ok (.istore_n 3, 1) := by decide +kernel
theorem dX12_sums_23 : decode cX12_sums 23 = .ok (.iload_n 3, 1) := by decide +kernel
theorem dX12_sums_24 : decode cX12_sums 24 = .ok (.iload_n 2, 1) := by decide +kernel
theorem dX12_sums_25 : decode cX12_sums 25 = .ok (.if_icmp .gt 74, 3) := by decide +kernel
theorem dX12_sums_28 : decode cX12_sums 28 = .ok (.lconst 0, 1) := by decide +kernel
theorem dX12_sums_29 : decode cX12_sums 29 = .ok (.lstore 4, 2) := by decide +kernel
theorem dX12_sums_31 : decode cX12_sums 31 = .ok (.iconst 0, 1) := by decide +kernel
theorem dX12_sums_32 : decode cX12_sums 32 = .ok (.istore 6, 2) := by decide +kernel
theorem dX12_sums_34 : decode cX12_sums 34 = .ok (.iload 6, 2) := by decide +kernel
theorem dX12_sums_36 : decode cX12_sums 36 = .ok (.bipush 30, 2) := by decide +kernel
theorem dX12_sums_38 : decode cX12_sums 38 = .ok (.if_icmp .ge 55, 3) := by decide +kernel
theorem dX12_sums_41 : decode cX12_sums 41 = .ok (.aload_n 0, 1) := by decide +kernel
theorem dX12_sums_42 : decode cX12_sums 42 = .ok (.getfield 136, 3) := by decide +kernel
theorem dX12_sums_45 : decode cX12_sums 45 = .ok (.iload 6, 2) := by decide +kernel
theorem dX12_sums_47 : decode cX12_sums 47 = .ok (.laload, 1) := by decide +kernel
theorem dX12_sums_48 : decode cX12_sums 48 = .ok (.aload_n 0, 1) := by decide +kernel
theorem dX12_sums_49 : decode cX12_sums 49 = .ok (.getfield 133, 3) := by decide +kernel
theorem dX12_sums_52 : decode cX12_sums 52 = .ok (.bipush 30, 2) := by decide +kernel
theorem dX12_sums_54 : decode cX12_sums 54 = .ok (.iload_n 3, 1) := by decide +kernel
theorem dX12_sums_55 : decode cX12_sums 55 = .ok (.imul, 1) := by decide +kernel
theorem dX12_sums_56 : decode cX12_sums 56 = .ok (.iload 6, 2) := by decide +kernel
theorem dX12_sums_58 : decode cX12_sums 58 = .ok (.iadd, 1) := by decide +kernel
theorem dX12_sums_59 : decode cX12_sums 59 = .ok (.laload, 1) := by decide +kernel
theorem dX12_sums_60 : decode cX12_sums 60 = .ok (.ladd, 1) := by decide +kernel
theorem dX12_sums_61 : decode cX12_sums 61 = .ok (.lload 4, 2) := by decide +kernel
theorem dX12_sums_63 : decode cX12_sums 63 = .ok (.ladd, 1) := by decide +kernel
theorem dX12_sums_64 : decode cX12_sums 64 = .ok (.lstore 7, 2) := by decide +kernel
theorem dX12_sums_66 : decode cX12_sums 66 = .ok (.aload_n 0, 1) := by decide +kernel
theorem dX12_sums_67 : decode cX12_sums 67 = .ok (.getfield 136, 3) := by decide +kernel
theorem dX12_sums_70 : decode cX12_sums 70 = .ok (.iload 6, 2) := by decide +kernel
theorem dX12_sums_72 : decode cX12_sums 72 = .ok (.lload 7, 2) := by decide +kernel
theorem dX12_sums_74 : decode cX12_sums 74 = .ok (.ldc2_w 389, 3) := by decide +kernel
theorem dX12_sums_77 : decode cX12_sums 77 = .ok (.lrem, 1) := by decide +kernel
theorem dX12_sums_78 : decode cX12_sums 78 = .ok (.lastore, 1) := by decide +kernel
theorem dX12_sums_79 : decode cX12_sums 79 = .ok (.lload 7, 2) := by decide +kernel
theorem dX12_sums_81 : decode cX12_sums 81 = .ok (.ldc2_w 389, 3) := by decide +kernel
theorem dX12_sums_84 : decode cX12_sums 84 = .ok (.ldiv, 1) := by decide +kernel
theorem dX12_sums_85 : decode cX12_sums 85 = .ok (.lstore 4, 2) := by decide +kernel
theorem dX12_sums_87 : decode cX12_sums 87 = .ok (.iinc 6 1, 3) := by decide +kernel
theorem dX12_sums_90 : decode cX12_sums 90 = .ok (.goto (-56), 3) := by decide +kernel
theorem dX12_sums_93 : decode cX12_sums 93 = .ok (.iinc 3 1, 3) := by decide +kernel
theorem dX12_sums_96 : decode cX12_sums 96 = .ok (.goto (-73), 3) := by decide +kernel
theorem dX12_sums_99 : decode cX12_sums 99 = .ok (.return_, 1) := by decide +kernel
theorem dX12_isRare_0 : decode cX12_isRare 0 = .ok (.lconst 0, 1) := by decide +kernel
theorem dX12_isRare_1 : decode cX12_isRare 1 = .ok (.lstore_n 2, 1) := by decide +kernel
theorem dX12_isRare_2 : decode cX12_isRare 2 = .ok (.iconst 0, 1) := by decide +kernel
theorem dX12_isRare_3 : decode cX12_isRare 3 = .ok (.istore 4, 2) := by decide +kernel
theorem dX12_isRare_5 : decode cX12_isRare 5 = .ok (.iload 4, 2) := by decide +kernel
theorem dX12_isRare_7 : decode cX12_isRare 7 = .ok (.bipush 30, 2) := by decide +kernel
theorem dX12_isRare_9 : decode cX12_isRare 9 = .ok (.if_icmp .ge 43, 3) := by decide +kernel
theorem dX12_isRare_12 : decode cX12_isRare 12 = .ok (.aload_n 0, 1) := by decide +kernel
theorem dX12_isRare_13 : decode cX12_isRare 13 = .ok (.getfield 136, 3) := by decide +kernel
theorem dX12_isRare_16 : decode cX12_isRare 16 = .ok (.iload 4, 2) := by decide +kernel
theorem dX12_isRare_18 : decode cX12_isRare 18 = .ok (.laload, 1) := by decide +kernel
theorem dX12_isRare_19 : decode cX12_isRare 19 = .ok (.iload_n 1, 1) := by decide +kernel
theorem dX12_isRare_20 : decode cX12_isRare 20 = .ok (.i2l, 1) := by decide +kernel
theorem dX12_isRare_21 : decode cX12_isRare 21 = .ok (.lmul, 1) := by decide +kernel
theorem dX12_isRare_22 : decode cX12_isRare 22 = .ok (.lload_n 2, 1) := by decide +kernel
theorem dX12_isRare_23 : decode cX12_isRare 23 = .ok (.ladd, 1) := by decide +kernel
theorem dX12_isRare_24 : decode cX12_isRare 24 = .ok (.lstore 5, 2) := by decide +kernel
theorem dX12_isRare_26 : decode cX12_isRare 26 = .ok (.aload_n 0, 1) := by decide +kernel
theorem dX12_isRare_27 : decode cX12_isRare 27 = .ok (.getfield 136, 3) := by decide +kernel
theorem dX12_isRare_30 : decode cX12_isRare 30 = .ok (.iload 4, 2) := by decide +kernel
theorem dX12_isRare_32 : decode cX12_isRare 32 = .ok (.lload 5, 2) := by decide +kernel
theorem dX12_isRare_34 : decode cX12_isRare 34 = .ok (.ldc2_w 389, 3) := by decide +kernel
theorem dX12_isRare_37 : decode cX12_isRare 37 = .ok (.lrem, 1) := by decide +kernel
theorem dX12_isRare_38 : decode cX12_isRare 38 = .ok (.lastore, 1) := by decide +kernel
theorem dX12_isRare_39 : decode cX12_isRare 39 = .ok (.lload 5, 2) := by decide +kernel
theorem dX12_isRare_41 : decode cX12_isRare 41 = .ok (.ldc2_w 389, 3) := by decide +kernel
theorem dX12_isRare_44 : decode cX12_isRare 44 = .ok (.ldiv, 1) := by decide +kernel
theorem dX12_isRare_45 : decode cX12_isRare 45 = .ok (.lstore_n 2, 1) := by decide +kernel
theorem dX12_isRare_46 : decode cX12_isRare 46 = .ok (.iinc 4 1, 3) := by decide +kernel
theorem dX12_isRare_49 : decode cX12_isRare 49 = .ok (.goto (-44), 3) := by decide +kernel
theorem dX12_isRare_52 : decode cX12_isRare 52 = .ok (.bipush 29, 2) := by decide +kernel
theorem dX12_isRare_54 : decode cX12_isRare 54 = .ok (.istore 4, 2) := by decide +kernel
