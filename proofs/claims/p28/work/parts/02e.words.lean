theorem dL_due_270 : decode cL_due 270 = .ok (.if_icmp .ne 14, 3) := by decide +kernel
theorem dL_due_273 : decode cL_due 273 = .ok (.iload_n 3, 1) := by decide +kernel
theorem dL_due_274 : decode cL_due 274 = .ok (.aload 4, 2) := by decide +kernel
theorem dL_due_276 : decode cL_due 276 = .ok (.iconst 0, 1) := by decide +kernel
theorem dL_due_277 : decode cL_due 277 = .ok (.iaload, 1) := by decide +kernel
theorem dL_due_278 : decode cL_due 278 = .ok (.if_icmp .lt 6, 3) := by decide +kernel
theorem dL_due_281 : decode cL_due 281 = .ok (.bipush (-101), 2) := by decide +kernel
theorem dL_due_283 : decode cL_due 283 = .ok (.ireturn, 1) := by decide +kernel
theorem dL_due_284 : decode cL_due 284 = .ok (.iload_n 0, 1) := by decide +kernel
theorem dL_due_285 : decode cL_due 285 = .ok (.iconst 2, 1) := by decide +kernel
theorem dL_due_286 : decode cL_due 286 = .ok (.if_icmp .ne 32, 3) := by decide +kernel
theorem dL_due_289 : decode cL_due 289 = .ok (.iload_n 1, 1) := by decide +kernel
theorem dL_due_290 : decode cL_due 290 = .ok (.iload_n 2, 1) := by decide +kernel
theorem dL_due_291 : decode cL_due 291 = .ok (.aload 4, 2) := by decide +kernel
theorem dL_due_293 : decode cL_due 293 = .ok (.aload 5, 2) := by decide +kernel
theorem dL_due_295 : decode cL_due 295 = .ok (.aload 6, 2) := by decide +kernel
theorem dL_due_297 : decode cL_due 297 = .ok (.invokestatic 128, 3) := by decide +kernel
theorem dL_due_300 : decode cL_due 300 = .ok (.ifCond .eq 8, 3) := by decide +kernel
theorem dL_due_303 : decode cL_due 303 = .ok (.bipush (-103), 2) := by decide +kernel
theorem dL_due_305 : decode cL_due 305 = .ok (.goto 12, 3) := by decide +kernel
theorem dL_due_308 : decode cL_due 308 = .ok (.iload_n 1, 1) := by decide +kernel
theorem dL_due_309 : decode cL_due 309 = .ok (.iload_n 2, 1) := by decide +kernel
theorem dL_due_310 : decode cL_due 310 = .ok (.aload 4, 2) := by decide +kernel
theorem dL_due_312 : decode cL_due 312 = .ok (.aload 6, 2) := by decide +kernel
theorem dL_due_314 : decode cL_due 314 = .ok (.invokestatic 132, 3) := by decide +kernel
theorem dL_due_317 : decode cL_due 317 = .ok (.ireturn, 1) := by decide +kernel
theorem dL_due_318 : decode cL_due 318 = .ok (.iload_n 2, 1) := by decide +kernel
theorem dL_due_319 : decode cL_due 319 = .ok (.iload_n 3, 1) := by decide +kernel
theorem dL_due_320 : decode cL_due 320 = .ok (.if_icmp .eq 35, 3) := by decide +kernel
theorem dL_due_323 : decode cL_due 323 = .ok (.aload 6, 2) := by decide +kernel
theorem dL_due_325 : decode cL_due 325 = .ok (.bipush 7, 2) := by decide +kernel
theorem dL_due_327 : decode cL_due 327 = .ok (.iload_n 1, 1) := by decide +kernel
theorem dL_due_328 : decode cL_due 328 = .ok (.imul, 1) := by decide +kernel
theorem dL_due_329 : decode cL_due 329 = .ok (.iaload, 1) := by decide +kernel
theorem dL_due_330 : decode cL_due 330 = .ok (.ifCond .ge 25, 3) := by decide +kernel
theorem dL_due_333 : decode cL_due 333 = .ok (.iload_n 2, 1) := by decide +kernel
theorem dL_due_334 : decode cL_due 334 = .ok (.aload 6, 2) := by decide +kernel
theorem dL_due_336 : decode cL_due 336 = .ok (.invokestatic 87, 3) := by decide +kernel
theorem dL_due_339 : decode cL_due 339 = .ok (.ifCond .ge 16, 3) := by decide +kernel
theorem dL_due_342 : decode cL_due 342 = .ok (.aload 5, 2) := by decide +kernel
theorem dL_due_344 : decode cL_due 344 = .ok (.iload_n 2, 1) := by decide +kernel
theorem dL_due_345 : decode cL_due 345 = .ok (.iaload, 1) := by decide +kernel
theorem dL_due_346 : decode cL_due 346 = .ok (.iconst 0, 1) := by decide +kernel
theorem dL_due_347 : decode cL_due 347 = .ok (.aload 4, 2) := by decide +kernel
theorem dL_due_349 : decode cL_due 349 = .ok (.invokestatic 76, 3) := by decide +kernel
theorem dL_due_352 : decode cL_due 352 = .ok (.ifCond .eq 16, 3) := by decide +kernel
theorem dL_due_355 : decode cL_due 355 = .ok (.iload_n 2, 1) := by decide +kernel
theorem dL_due_356 : decode cL_due 356 = .ok (.iload_n 3, 1) := by decide +kernel
theorem dL_due_357 : decode cL_due 357 = .ok (.if_icmp .ne 8, 3) := by decide +kernel
theorem dL_due_360 : decode cL_due 360 = .ok (.bipush (-102), 2) := by decide +kernel
theorem dL_due_362 : decode cL_due 362 = .ok (.goto 5, 3) := by decide +kernel
theorem dL_due_365 : decode cL_due 365 = .ok (.bipush (-103), 2) := by decide +kernel
theorem dL_due_367 : decode cL_due 367 = .ok (.ireturn, 1) := by decide +kernel
theorem dL_due_368 : decode cL_due 368 = .ok (.aload 6, 2) := by decide +kernel
theorem dL_due_370 : decode cL_due 370 = .ok (.bipush 7, 2) := by decide +kernel
theorem dL_due_372 : decode cL_due 372 = .ok (.iload_n 1, 1) := by decide +kernel
theorem dL_due_373 : decode cL_due 373 = .ok (.imul, 1) := by decide +kernel
theorem dL_due_374 : decode cL_due 374 = .ok (.iload_n 2, 1) := by decide +kernel
theorem dL_due_375 : decode cL_due 375 = .ok (.iastore, 1) := by decide +kernel
theorem dL_due_376 : decode cL_due 376 = .ok (.aload 6, 2) := by decide +kernel
theorem dL_due_378 : decode cL_due 378 = .ok (.bipush 7, 2) := by decide +kernel
theorem dL_due_380 : decode cL_due 380 = .ok (.iload_n 1, 1) := by decide +kernel
theorem dL_due_381 : decode cL_due 381 = .ok (.imul, 1) := by decide +kernel
theorem dL_due_382 : decode cL_due 382 = .ok (.iconst 1, 1) := by decide +kernel
theorem dL_due_383 : decode cL_due 383 = .ok (.iadd, 1) := by decide +kernel
theorem dL_due_384 : decode cL_due 384 = .ok (.iload_n 2, 1) := by decide +kernel
theorem dL_due_385 : decode cL_due 385 = .ok (.iastore, 1) := by decide +kernel
theorem dL_due_386 : decode cL_due 386 = .ok (.aload 6, 2) := by decide +kernel
theorem dL_due_388 : decode cL_due 388 = .ok (.bipush 7, 2) := by decide +kernel
theorem dL_due_390 : decode cL_due 390 = .ok (.iload_n 1, 1) := by decide +kernel
theorem dL_due_391 : decode cL_due 391 = .ok (.imul, 1) := by decide +kernel
theorem dL_due_392 : decode cL_due 392 = .ok (.iconst 2, 1) := by decide +kernel
theorem dL_due_393 : decode cL_due 393 = .ok (.iadd, 1) := by decide +kernel
theorem dL_due_394 : decode cL_due 394 = .ok (.iload_n 3, 1) := by decide +kernel
theorem dL_due_395 : decode cL_due 395 = .ok (.iastore, 1) := by decide +kernel
theorem dL_due_396 : decode cL_due 396 = .ok (.aload 6, 2) := by decide +kernel
theorem dL_due_398 : decode cL_due 398 = .ok (.bipush 7, 2) := by decide +kernel
theorem dL_due_400 : decode cL_due 400 = .ok (.iload_n 1, 1) := by decide +kernel
theorem dL_due_401 : decode cL_due 401 = .ok (.imul, 1) := by decide +kernel
theorem dL_due_402 : decode cL_due 402 = .ok (.iconst 3, 1) := by decide +kernel
theorem dL_due_403 : decode cL_due 403 = .ok (.iadd, 1) := by decide +kernel
theorem dL_due_404 : decode cL_due 404 = .ok (.iconst 0, 1) := by decide +kernel
theorem dL_due_405 : decode cL_due 405 = .ok (.iastore, 1) := by decide +kernel
theorem dL_due_406 : decode cL_due 406 = .ok (.aload 6, 2) := by decide +kernel
theorem dL_due_408 : decode cL_due 408 = .ok (.bipush 7, 2) := by decide +kernel
theorem dL_due_410 : decode cL_due 410 = .ok (.iload_n 1, 1) := by decide +kernel
theorem dL_due_411 : decode cL_due 411 = .ok (.imul, 1) := by decide +kernel
theorem dL_due_412 : decode cL_due 412 = .ok (.iconst 4, 1) := by decide +kernel
theorem dL_due_413 : decode cL_due 413 = .ok (.iadd, 1) := by decide +kernel
theorem dL_due_414 : decode cL_due 414 = .ok (.iconst 0, 1) := by decide +kernel
theorem dL_due_415 : decode cL_due 415 = .ok (.iastore, 1) := by decide +kernel
theorem dL_due_416 : decode cL_due 416 = .ok (.iload_n 2, 1) := by decide +kernel
theorem dL_due_417 : decode cL_due 417 = .ok (.iload_n 3, 1) := by decide +kernel
theorem dL_due_418 : decode cL_due 418 = .ok (.iconst 0, 1) := by decide +kernel
theorem dL_due_419 : decode cL_due 419 = .ok (.aload 4, 2) := by decide +kernel
theorem dL_due_421 : decode cL_due 421 = .ok (.aload 5, 2) := by decide +kernel
theorem dL_due_423 : decode cL_due 423 = .ok (.aload 7, 2) := by decide +kernel
theorem dL_due_425 : decode cL_due 425 = .ok (.invokestatic 136, 3) := by decide +kernel
theorem dL_due_428 : decode cL_due 428 = .ok (.ireturn, 1) := by decide +kernel
set_option maxRecDepth 20000 in
theorem ggL_isWord_L_ladder : GoodIn wsL_isWord wsL_ladder := goodIn_r _ [4, 5, 6, 3, 7] (by decide +kernel) (by decide +kernel)
set_option maxRecDepth 20000 in
theorem gL_isWord_L_ladder : GoodIn wsL_isWord (va_wsS RL 140 yL_ladder wsL_ladder) := goodIn_app (goodIn_of _ (by decide +kernel)) ggL_isWord_L_ladder
set_option maxRecDepth 20000 in
theorem ggL_isWord_L_linked : GoodIn wsL_isWord wsL_linked := goodIn_r _ [10, 11, 12, 3, 13] (by decide +kernel) (by decide +kernel)
set_option maxRecDepth 20000 in
theorem gL_isWord_L_linked : GoodIn wsL_isWord (va_wsS RL 72 yL_linked wsL_linked) := goodIn_app (goodIn_of _ (by decide +kernel)) ggL_isWord_L_linked
set_option maxRecDepth 20000 in
theorem ggL_isWord_L_isBarred : GoodIn wsL_isWord wsL_isBarred := goodIn_r _ [16, 11, 12, 3, 13] (by decide +kernel) (by decide +kernel)
set_option maxRecDepth 20000 in
theorem gL_isWord_L_isBarred : GoodIn wsL_isWord (va_wsS RL 76 yL_isBarred wsL_isBarred) := goodIn_app (goodIn_of _ (by decide +kernel)) ggL_isWord_L_isBarred
set_option maxRecDepth 20000 in
theorem ggL_isWord_L_word : GoodIn wsL_isWord wsL_word := goodIn_ca (goodIn_ca (goodIn_r _ [19, 20, 21, 22, 23, 24, 25, 26, 27, 28, 29, 30, 31, 32, 33, 34, 35, 36, 37, 38, 39, 40, 41, 42, 43, 44, 45, 46, 47, 48, 49, 50, 51, 52, 53, 54, 55, 56, 57, 58, 59, 60, 61, 62, 63, 64, 65, 66, 67, 68, 69, 70, 71, 72, 73, 74, 75, 76, 77, 78, 79, 80, 81, 82, 83, 84, 85, 86, 87, 88, 89, 90, 91, 92, 93, 94, 95, 96, 97, 98, 99, 100, 101, 102, 103, 107, 108, 109, 110, 111, 112, 113, 114, 115, 116, 117, 118, 119, 120, 121, 122, 123, 124, 125, 126, 127, 128] (by decide +kernel) (by decide +kernel)) (goodIn_sub (fun _ h => List.mem_cons_of_mem _ (List.mem_append_left _ (List.mem_append_right _ h))) (by decide +kernel))) (goodIn_sub (fun _ h => List.mem_cons_of_mem _ (List.mem_append_right _ h)) (by decide +kernel))
set_option maxRecDepth 20000 in
theorem gL_isWord_L_word : GoodIn wsL_isWord (va_wsS RL 143 yL_word wsL_word) := goodIn_app (goodIn_of _ (by decide +kernel)) ggL_isWord_L_word
set_option maxRecDepth 20000 in
theorem ggL_isWord_L_on : GoodIn wsL_isWord wsL_on := goodIn_r _ [106] (by decide +kernel) (by decide +kernel)
set_option maxRecDepth 20000 in
theorem gL_isWord_L_on : GoodIn wsL_isWord (va_wsS RL 87 yL_on wsL_on) := goodIn_app (goodIn_of _ (by decide +kernel)) ggL_isWord_L_on
set_option maxRecDepth 20000 in
theorem ggL_isWord_L_letter : GoodIn wsL_isWord wsL_letter := goodIn_r _ [13] (by decide +kernel) (by decide +kernel)
set_option maxRecDepth 20000 in
theorem gL_isWord_L_letter : GoodIn wsL_isWord (va_wsS RL 67 yL_letter wsL_letter) := goodIn_app (goodIn_of _ (by decide +kernel)) ggL_isWord_L_letter
theorem dL_isWord_0 : decode cL_isWord 0 = .ok (.iconst 0, 1) := by decide +kernel
theorem dL_isWord_1 : decode cL_isWord 1 = .ok (.istore 6, 2) := by decide +kernel
theorem dL_isWord_3 : decode cL_isWord 3 = .ok (.iconst 0, 1) := by decide +kernel
theorem dL_isWord_4 : decode cL_isWord 4 = .ok (.istore 7, 2) := by decide +kernel
theorem dL_isWord_6 : decode cL_isWord 6 = .ok (.iconst (-1), 1) := by decide +kernel
theorem dL_isWord_7 : decode cL_isWord 7 = .ok (.istore 8, 2) := by decide +kernel
theorem dL_isWord_9 : decode cL_isWord 9 = .ok (.iconst 0, 1) := by decide +kernel
theorem dL_isWord_10 : decode cL_isWord 10 = .ok (.istore 9, 2) := by decide +kernel
theorem dL_isWord_12 : decode cL_isWord 12 = .ok (.iload 9, 2) := by decide +kernel
theorem dL_isWord_14 : decode cL_isWord 14 = .ok (.aload_n 2, 1) := by decide +kernel
theorem dL_isWord_15 : decode cL_isWord 15 = .ok (.iconst 0, 1) := by decide +kernel
theorem dL_isWord_16 : decode cL_isWord 16 = .ok (.iaload, 1) := by decide +kernel
theorem dL_isWord_17 : decode cL_isWord 17 = .ok (.if_icmp .ge 88, 3) := by decide +kernel
theorem dL_isWord_20 : decode cL_isWord 20 = .ok (.iload_n 1, 1) := by decide +kernel
theorem dL_isWord_21 : decode cL_isWord 21 = .ok (.iload 9, 2) := by decide +kernel
theorem dL_isWord_23 : decode cL_isWord 23 = .ok (.aload_n 2, 1) := by decide +kernel
theorem dL_isWord_24 : decode cL_isWord 24 = .ok (.aload 5, 2) := by decide +kernel
theorem dL_isWord_26 : decode cL_isWord 26 = .ok (.invokestatic 140, 3) := by decide +kernel
theorem dL_isWord_29 : decode cL_isWord 29 = .ok (.ifCond .lt 7, 3) := by decide +kernel
theorem dL_isWord_32 : decode cL_isWord 32 = .ok (.iconst 1, 1) := by decide +kernel
theorem dL_isWord_33 : decode cL_isWord 33 = .ok (.goto 4, 3) := by decide +kernel
theorem dL_isWord_36 : decode cL_isWord 36 = .ok (.iconst 0, 1) := by decide +kernel
theorem dL_isWord_37 : decode cL_isWord 37 = .ok (.istore 10, 2) := by decide +kernel
theorem dL_isWord_39 : decode cL_isWord 39 = .ok (.iload 6, 2) := by decide +kernel
theorem dL_isWord_41 : decode cL_isWord 41 = .ok (.aload_n 3, 1) := by decide +kernel
theorem dL_isWord_42 : decode cL_isWord 42 = .ok (.iload_n 1, 1) := by decide +kernel
theorem dL_isWord_43 : decode cL_isWord 43 = .ok (.iaload, 1) := by decide +kernel
theorem dL_isWord_44 : decode cL_isWord 44 = .ok (.aload_n 3, 1) := by decide +kernel
theorem dL_isWord_45 : decode cL_isWord 45 = .ok (.iload 9, 2) := by decide +kernel
theorem dL_isWord_47 : decode cL_isWord 47 = .ok (.iaload, 1) := by decide +kernel
theorem dL_isWord_48 : decode cL_isWord 48 = .ok (.aload_n 2, 1) := by decide +kernel
theorem dL_isWord_49 : decode cL_isWord 49 = .ok (.iconst 4, 1) := by decide +kernel
theorem dL_isWord_50 : decode cL_isWord 50 = .ok (.iaload, 1) := by decide +kernel
theorem dL_isWord_51 : decode cL_isWord 51 = .ok (.invokestatic 72, 3) := by decide +kernel
theorem dL_isWord_54 : decode cL_isWord 54 = .ok (.ifCond .eq 7, 3) := by decide +kernel
theorem dL_isWord_57 : decode cL_isWord 57 = .ok (.iconst 1, 1) := by decide +kernel
theorem dL_isWord_58 : decode cL_isWord 58 = .ok (.goto 4, 3) := by decide +kernel
theorem dL_isWord_61 : decode cL_isWord 61 = .ok (.iconst 0, 1) := by decide +kernel
theorem dL_isWord_62 : decode cL_isWord 62 = .ok (.iadd, 1) := by decide +kernel
theorem dL_isWord_63 : decode cL_isWord 63 = .ok (.istore 6, 2) := by decide +kernel
theorem dL_isWord_65 : decode cL_isWord 65 = .ok (.iload 7, 2) := by decide +kernel
theorem dL_isWord_67 : decode cL_isWord 67 = .ok (.iload 10, 2) := by decide +kernel
theorem dL_isWord_69 : decode cL_isWord 69 = .ok (.ifCond .eq 7, 3) := by decide +kernel
theorem dL_isWord_72 : decode cL_isWord 72 = .ok (.iconst 1, 1) := by decide +kernel
theorem dL_isWord_73 : decode cL_isWord 73 = .ok (.goto 4, 3) := by decide +kernel
theorem dL_isWord_76 : decode cL_isWord 76 = .ok (.iconst 0, 1) := by decide +kernel
theorem dL_isWord_77 : decode cL_isWord 77 = .ok (.iadd, 1) := by decide +kernel
theorem dL_isWord_78 : decode cL_isWord 78 = .ok (.istore 7, 2) := by decide +kernel
theorem dL_isWord_80 : decode cL_isWord 80 = .ok (.iload 10, 2) := by decide +kernel
theorem dL_isWord_82 : decode cL_isWord 82 = .ok (.ifCond .eq 13, 3) := by decide +kernel
theorem dL_isWord_85 : decode cL_isWord 85 = .ok (.iload 8, 2) := by decide +kernel
theorem dL_isWord_87 : decode cL_isWord 87 = .ok (.ifCond .ge 8, 3) := by decide +kernel
theorem dL_isWord_90 : decode cL_isWord 90 = .ok (.iload 9, 2) := by decide +kernel
theorem dL_isWord_92 : decode cL_isWord 92 = .ok (.goto 5, 3) := by decide +kernel
theorem dL_isWord_95 : decode cL_isWord 95 = .ok (.iload 8, 2) := by decide +kernel
theorem dL_isWord_97 : decode cL_isWord 97 = .ok (.istore 8, 2) := by decide +kernel
theorem dL_isWord_99 : decode cL_isWord 99 = .ok (.iinc 9 1, 3) := by decide +kernel
theorem dL_isWord_102 : decode cL_isWord 102 = .ok (.goto (-90), 3) := by decide +kernel
theorem dL_isWord_105 : decode cL_isWord 105 = .ok (.iconst (-1), 1) := by decide +kernel
theorem dL_isWord_106 : decode cL_isWord 106 = .ok (.istore 9, 2) := by decide +kernel
theorem dL_isWord_108 : decode cL_isWord 108 = .ok (.bipush 31, 2) := by decide +kernel
theorem dL_isWord_110 : decode cL_isWord 110 = .ok (.istore 10, 2) := by decide +kernel
theorem dL_isWord_112 : decode cL_isWord 112 = .ok (.iload 10, 2) := by decide +kernel
theorem dL_isWord_114 : decode cL_isWord 114 = .ok (.ifCond .lt 30, 3) := by decide +kernel
theorem dL_isWord_117 : decode cL_isWord 117 = .ok (.aload_n 3, 1) := by decide +kernel
theorem dL_isWord_118 : decode cL_isWord 118 = .ok (.iload_n 1, 1) := by decide +kernel
theorem dL_isWord_119 : decode cL_isWord 119 = .ok (.iaload, 1) := by decide +kernel
theorem dL_isWord_120 : decode cL_isWord 120 = .ok (.iload 10, 2) := by decide +kernel
theorem dL_isWord_122 : decode cL_isWord 122 = .ok (.aload_n 2, 1) := by decide +kernel
theorem dL_isWord_123 : decode cL_isWord 123 = .ok (.invokestatic 76, 3) := by decide +kernel
theorem dL_isWord_126 : decode cL_isWord 126 = .ok (.ifCond .eq 8, 3) := by decide +kernel
theorem dL_isWord_129 : decode cL_isWord 129 = .ok (.iload 10, 2) := by decide +kernel
theorem dL_isWord_131 : decode cL_isWord 131 = .ok (.goto 5, 3) := by decide +kernel
theorem dL_isWord_134 : decode cL_isWord 134 = .ok (.iload 9, 2) := by decide +kernel
theorem dL_isWord_136 : decode cL_isWord 136 = .ok (.istore 9, 2) := by decide +kernel
theorem dL_isWord_138 : decode cL_isWord 138 = .ok (.iinc 10 (-1), 3) := by decide +kernel
theorem dL_isWord_141 : decode cL_isWord 141 = .ok (.goto (-29), 3) := by decide +kernel
theorem dL_isWord_144 : decode cL_isWord 144 = .ok (.aload_n 0, 1) := by decide +kernel
theorem dL_isWord_145 : decode cL_isWord 145 = .ok (.iload_n 1, 1) := by decide +kernel
theorem dL_isWord_146 : decode cL_isWord 146 = .ok (.iconst 4, 1) := by decide +kernel
theorem dL_isWord_147 : decode cL_isWord 147 = .ok (.invokestatic 143, 3) := by decide +kernel
theorem dL_isWord_150 : decode cL_isWord 150 = .ok (.iload 9, 2) := by decide +kernel
theorem dL_isWord_152 : decode cL_isWord 152 = .ok (.ifCond .ne 7, 3) := by decide +kernel
theorem dL_isWord_155 : decode cL_isWord 155 = .ok (.iconst 1, 1) := by decide +kernel
theorem dL_isWord_156 : decode cL_isWord 156 = .ok (.goto 4, 3) := by decide +kernel
theorem dL_isWord_159 : decode cL_isWord 159 = .ok (.iconst 0, 1) := by decide +kernel
theorem dL_isWord_160 : decode cL_isWord 160 = .ok (.if_icmp .ne 70, 3) := by decide +kernel
theorem dL_isWord_163 : decode cL_isWord 163 = .ok (.aload_n 0, 1) := by decide +kernel
theorem dL_isWord_164 : decode cL_isWord 164 = .ok (.iload_n 1, 1) := by decide +kernel
theorem dL_isWord_165 : decode cL_isWord 165 = .ok (.iconst 5, 1) := by decide +kernel
theorem dL_isWord_166 : decode cL_isWord 166 = .ok (.invokestatic 143, 3) := by decide +kernel
theorem dL_isWord_169 : decode cL_isWord 169 = .ok (.iload 6, 2) := by decide +kernel
theorem dL_isWord_171 : decode cL_isWord 171 = .ok (.if_icmp .ne 59, 3) := by decide +kernel
theorem dL_isWord_174 : decode cL_isWord 174 = .ok (.aload_n 0, 1) := by decide +kernel
theorem dL_isWord_175 : decode cL_isWord 175 = .ok (.iload_n 1, 1) := by decide +kernel
theorem dL_isWord_176 : decode cL_isWord 176 = .ok (.bipush 6, 2) := by decide +kernel
theorem dL_isWord_178 : decode cL_isWord 178 = .ok (.invokestatic 143, 3) := by decide +kernel
theorem dL_isWord_181 : decode cL_isWord 181 = .ok (.iload_n 1, 1) := by decide +kernel
theorem dL_isWord_182 : decode cL_isWord 182 = .ok (.aload 4, 2) := by decide +kernel
theorem dL_isWord_184 : decode cL_isWord 184 = .ok (.invokestatic 87, 3) := by decide +kernel
theorem dL_isWord_187 : decode cL_isWord 187 = .ok (.if_icmp .ne 43, 3) := by decide +kernel
theorem dL_isWord_190 : decode cL_isWord 190 = .ok (.aload_n 0, 1) := by decide +kernel
theorem dL_isWord_191 : decode cL_isWord 191 = .ok (.iload_n 1, 1) := by decide +kernel
theorem dL_isWord_192 : decode cL_isWord 192 = .ok (.bipush 7, 2) := by decide +kernel
theorem dL_isWord_194 : decode cL_isWord 194 = .ok (.invokestatic 143, 3) := by decide +kernel
theorem dL_isWord_197 : decode cL_isWord 197 = .ok (.iload 8, 2) := by decide +kernel
theorem dL_isWord_199 : decode cL_isWord 199 = .ok (.if_icmp .ne 31, 3) := by decide +kernel
theorem dL_isWord_202 : decode cL_isWord 202 = .ok (.aload_n 0, 1) := by decide +kernel
theorem dL_isWord_203 : decode cL_isWord 203 = .ok (.iload_n 1, 1) := by decide +kernel
theorem dL_isWord_204 : decode cL_isWord 204 = .ok (.bipush 8, 2) := by decide +kernel
theorem dL_isWord_206 : decode cL_isWord 206 = .ok (.invokestatic 143, 3) := by decide +kernel
theorem dL_isWord_209 : decode cL_isWord 209 = .ok (.iload 7, 2) := by decide +kernel
theorem dL_isWord_211 : decode cL_isWord 211 = .ok (.if_icmp .ne 19, 3) := by decide +kernel
theorem dL_isWord_214 : decode cL_isWord 214 = .ok (.aload_n 0, 1) := by decide +kernel
theorem dL_isWord_215 : decode cL_isWord 215 = .ok (.iload_n 1, 1) := by decide +kernel
theorem dL_isWord_216 : decode cL_isWord 216 = .ok (.bipush 9, 2) := by decide +kernel
theorem dL_isWord_218 : decode cL_isWord 218 = .ok (.invokestatic 143, 3) := by decide +kernel
theorem dL_isWord_221 : decode cL_isWord 221 = .ok (.iload 9, 2) := by decide +kernel
theorem dL_isWord_223 : decode cL_isWord 223 = .ok (.if_icmp .ne 7, 3) := by decide +kernel
theorem dL_isWord_226 : decode cL_isWord 226 = .ok (.iconst 1, 1) := by decide +kernel
theorem dL_isWord_227 : decode cL_isWord 227 = .ok (.goto 4, 3) := by decide +kernel
theorem dL_isWord_230 : decode cL_isWord 230 = .ok (.iconst 0, 1) := by decide +kernel
theorem dL_isWord_231 : decode cL_isWord 231 = .ok (.istore 10, 2) := by decide +kernel
theorem dL_isWord_233 : decode cL_isWord 233 = .ok (.iconst 0, 1) := by decide +kernel
theorem dL_isWord_234 : decode cL_isWord 234 = .ok (.istore 11, 2) := by decide +kernel
theorem dL_isWord_236 : decode cL_isWord 236 = .ok (.iload 11, 2) := by decide +kernel
theorem dL_isWord_238 : decode cL_isWord 238 = .ok (.iconst 4, 1) := by decide +kernel
theorem dL_isWord_239 : decode cL_isWord 239 = .ok (.if_icmp .ge 39, 3) := by decide +kernel
theorem dL_isWord_242 : decode cL_isWord 242 = .ok (.iload 10, 2) := by decide +kernel
theorem dL_isWord_244 : decode cL_isWord 244 = .ok (.ifCond .eq 25, 3) := by decide +kernel
theorem dL_isWord_247 : decode cL_isWord 247 = .ok (.aload_n 0, 1) := by decide +kernel
theorem dL_isWord_248 : decode cL_isWord 248 = .ok (.iload_n 1, 1) := by decide +kernel
theorem dL_isWord_249 : decode cL_isWord 249 = .ok (.iload 11, 2) := by decide +kernel
theorem dL_isWord_251 : decode cL_isWord 251 = .ok (.invokestatic 143, 3) := by decide +kernel
theorem dL_isWord_254 : decode cL_isWord 254 = .ok (.aload_n 3, 1) := by decide +kernel
theorem dL_isWord_255 : decode cL_isWord 255 = .ok (.iload_n 1, 1) := by decide +kernel
theorem dL_isWord_256 : decode cL_isWord 256 = .ok (.iaload, 1) := by decide +kernel
theorem dL_isWord_257 : decode cL_isWord 257 = .ok (.iload 11, 2) := by decide +kernel
theorem dL_isWord_259 : decode cL_isWord 259 = .ok (.invokestatic 67, 3) := by decide +kernel
theorem dL_isWord_262 : decode cL_isWord 262 = .ok (.if_icmp .ne 7, 3) := by decide +kernel
theorem dL_isWord_265 : decode cL_isWord 265 = .ok (.iconst 1, 1) := by decide +kernel
theorem dL_isWord_266 : decode cL_isWord 266 = .ok (.goto 4, 3) := by decide +kernel
theorem dL_isWord_269 : decode cL_isWord 269 = .ok (.iconst 0, 1) := by decide +kernel
theorem dL_isWord_270 : decode cL_isWord 270 = .ok (.istore 10, 2) := by decide +kernel
theorem dL_isWord_272 : decode cL_isWord 272 = .ok (.iinc 11 1, 3) := by decide +kernel
theorem dL_isWord_275 : decode cL_isWord 275 = .ok (.goto (-39), 3) := by decide +kernel
theorem dL_isWord_278 : decode cL_isWord 278 = .ok (.iload 10, 2) := by decide +kernel
theorem dL_isWord_280 : decode cL_isWord 280 = .ok (.ireturn, 1) := by decide +kernel
set_option maxRecDepth 20000 in
theorem ggL_isClimber_L_climber : GoodIn wsL_isClimber wsL_climber := goodIn_ca (goodIn_ca (goodIn_r _ [4, 5, 6, 7, 8, 9, 10, 11, 12, 13, 14, 15, 16, 17, 18, 19, 20, 21, 22, 23, 24, 25, 26, 27, 28, 29, 30, 31, 32, 33, 34, 35, 36, 37, 38, 39, 40, 41, 42, 43, 44, 45, 46, 47, 48, 49, 50, 51, 52, 53, 54, 55, 56, 57, 58, 59, 60, 61, 62, 63, 64, 65, 66, 67, 68, 69, 70, 71, 72, 73, 74, 75, 76, 77, 78, 79, 80, 81, 82, 83, 84, 85, 86, 87, 88, 89, 90, 91, 92, 93, 94, 95, 96, 97, 98, 99, 100, 101, 102, 103, 104, 105, 106, 107, 108, 124, 125, 126, 127, 128, 129, 130, 131, 132, 133, 134, 135, 136, 137, 138, 139, 140, 141, 142, 143, 144, 145, 146, 147, 148, 149] (by decide +kernel) (by decide +kernel)) (goodIn_sub (fun _ h => List.mem_cons_of_mem _ (List.mem_append_left _ (List.mem_append_right _ h))) (by decide +kernel))) (goodIn_sub (fun _ h => List.mem_cons_of_mem _ (List.mem_append_right _ h)) (by decide +kernel))
set_option maxRecDepth 20000 in
theorem gL_isClimber_L_climber : GoodIn wsL_isClimber (va_wsS RL 145 yL_climber wsL_climber) := goodIn_app (goodIn_of _ (by decide +kernel)) ggL_isClimber_L_climber
set_option maxRecDepth 20000 in
theorem ggL_isClimber_L_fewest : GoodIn wsL_isClimber wsL_fewest := goodIn_r _ [111, 112, 113, 3, 114, 115, 116, 117, 118, 119, 120, 121, 122, 123] (by decide +kernel) (by decide +kernel)
set_option maxRecDepth 20000 in
theorem gL_isClimber_L_fewest : GoodIn wsL_isClimber (va_wsS RL 136 yL_fewest wsL_fewest) := goodIn_app (goodIn_of _ (by decide +kernel)) ggL_isClimber_L_fewest
theorem dL_isClimber_0 : decode cL_isClimber 0 = .ok (.iconst 1, 1) := by decide +kernel
theorem dL_isClimber_1 : decode cL_isClimber 1 = .ok (.istore 6, 2) := by decide +kernel
theorem dL_isClimber_3 : decode cL_isClimber 3 = .ok (.iconst 0, 1) := by decide +kernel
theorem dL_isClimber_4 : decode cL_isClimber 4 = .ok (.istore 7, 2) := by decide +kernel
theorem dL_isClimber_6 : decode cL_isClimber 6 = .ok (.iload 7, 2) := by decide +kernel
theorem dL_isClimber_8 : decode cL_isClimber 8 = .ok (.bipush 7, 2) := by decide +kernel
theorem dL_isClimber_10 : decode cL_isClimber 10 = .ok (.if_icmp .ge 41, 3) := by decide +kernel
theorem dL_isClimber_13 : decode cL_isClimber 13 = .ok (.iload 6, 2) := by decide +kernel
theorem dL_isClimber_15 : decode cL_isClimber 15 = .ok (.ifCond .eq 27, 3) := by decide +kernel
theorem dL_isClimber_18 : decode cL_isClimber 18 = .ok (.aload_n 0, 1) := by decide +kernel
theorem dL_isClimber_19 : decode cL_isClimber 19 = .ok (.iload_n 1, 1) := by decide +kernel
theorem dL_isClimber_20 : decode cL_isClimber 20 = .ok (.iload 7, 2) := by decide +kernel
theorem dL_isClimber_22 : decode cL_isClimber 22 = .ok (.invokestatic 145, 3) := by decide +kernel
theorem dL_isClimber_25 : decode cL_isClimber 25 = .ok (.aload 4, 2) := by decide +kernel
theorem dL_isClimber_27 : decode cL_isClimber 27 = .ok (.bipush 7, 2) := by decide +kernel
theorem dL_isClimber_29 : decode cL_isClimber 29 = .ok (.iload_n 1, 1) := by decide +kernel
theorem dL_isClimber_30 : decode cL_isClimber 30 = .ok (.imul, 1) := by decide +kernel
theorem dL_isClimber_31 : decode cL_isClimber 31 = .ok (.iload 7, 2) := by decide +kernel
theorem dL_isClimber_33 : decode cL_isClimber 33 = .ok (.iadd, 1) := by decide +kernel
theorem dL_isClimber_34 : decode cL_isClimber 34 = .ok (.iaload, 1) := by decide +kernel
theorem dL_isClimber_35 : decode cL_isClimber 35 = .ok (.if_icmp .ne 7, 3) := by decide +kernel
theorem dL_isClimber_38 : decode cL_isClimber 38 = .ok (.iconst 1, 1) := by decide +kernel
theorem dL_isClimber_39 : decode cL_isClimber 39 = .ok (.goto 4, 3) := by decide +kernel
theorem dL_isClimber_42 : decode cL_isClimber 42 = .ok (.iconst 0, 1) := by decide +kernel
theorem dL_isClimber_43 : decode cL_isClimber 43 = .ok (.istore 6, 2) := by decide +kernel
theorem dL_isClimber_45 : decode cL_isClimber 45 = .ok (.iinc 7 1, 3) := by decide +kernel
theorem dL_isClimber_48 : decode cL_isClimber 48 = .ok (.goto (-42), 3) := by decide +kernel
theorem dL_isClimber_51 : decode cL_isClimber 51 = .ok (.aload 4, 2) := by decide +kernel
theorem dL_isClimber_53 : decode cL_isClimber 53 = .ok (.bipush 7, 2) := by decide +kernel
theorem dL_isClimber_55 : decode cL_isClimber 55 = .ok (.iload_n 1, 1) := by decide +kernel
theorem dL_isClimber_56 : decode cL_isClimber 56 = .ok (.imul, 1) := by decide +kernel
theorem dL_isClimber_57 : decode cL_isClimber 57 = .ok (.iaload, 1) := by decide +kernel
theorem dL_isClimber_58 : decode cL_isClimber 58 = .ok (.ifCond .ge 47, 3) := by decide +kernel
theorem dL_isClimber_61 : decode cL_isClimber 61 = .ok (.iload 6, 2) := by decide +kernel
theorem dL_isClimber_63 : decode cL_isClimber 63 = .ok (.ifCond .eq 40, 3) := by decide +kernel
theorem dL_isClimber_66 : decode cL_isClimber 66 = .ok (.aload_n 0, 1) := by decide +kernel
theorem dL_isClimber_67 : decode cL_isClimber 67 = .ok (.iload_n 1, 1) := by decide +kernel
theorem dL_isClimber_68 : decode cL_isClimber 68 = .ok (.bipush 7, 2) := by decide +kernel
theorem dL_isClimber_70 : decode cL_isClimber 70 = .ok (.invokestatic 145, 3) := by decide +kernel
theorem dL_isClimber_73 : decode cL_isClimber 73 = .ok (.iconst (-1), 1) := by decide +kernel
theorem dL_isClimber_74 : decode cL_isClimber 74 = .ok (.if_icmp .ne 29, 3) := by decide +kernel
theorem dL_isClimber_77 : decode cL_isClimber 77 = .ok (.aload_n 0, 1) := by decide +kernel
theorem dL_isClimber_78 : decode cL_isClimber 78 = .ok (.iload_n 1, 1) := by decide +kernel
theorem dL_isClimber_79 : decode cL_isClimber 79 = .ok (.bipush 8, 2) := by decide +kernel
theorem dL_isClimber_81 : decode cL_isClimber 81 = .ok (.invokestatic 145, 3) := by decide +kernel
theorem dL_isClimber_84 : decode cL_isClimber 84 = .ok (.iconst (-1), 1) := by decide +kernel
theorem dL_isClimber_85 : decode cL_isClimber 85 = .ok (.if_icmp .ne 18, 3) := by decide +kernel
theorem dL_isClimber_88 : decode cL_isClimber 88 = .ok (.aload_n 0, 1) := by decide +kernel
theorem dL_isClimber_89 : decode cL_isClimber 89 = .ok (.iload_n 1, 1) := by decide +kernel
theorem dL_isClimber_90 : decode cL_isClimber 90 = .ok (.bipush 9, 2) := by decide +kernel
theorem dL_isClimber_92 : decode cL_isClimber 92 = .ok (.invokestatic 145, 3) := by decide +kernel
theorem dL_isClimber_95 : decode cL_isClimber 95 = .ok (.iconst (-1), 1) := by decide +kernel
theorem dL_isClimber_96 : decode cL_isClimber 96 = .ok (.if_icmp .ne 7, 3) := by decide +kernel
theorem dL_isClimber_99 : decode cL_isClimber 99 = .ok (.iconst 1, 1) := by decide +kernel
theorem dL_isClimber_100 : decode cL_isClimber 100 = .ok (.goto 4, 3) := by decide +kernel
theorem dL_isClimber_103 : decode cL_isClimber 103 = .ok (.iconst 0, 1) := by decide +kernel
theorem dL_isClimber_104 : decode cL_isClimber 104 = .ok (.ireturn, 1) := by decide +kernel
theorem dL_isClimber_105 : decode cL_isClimber 105 = .ok (.aload 4, 2) := by decide +kernel
theorem dL_isClimber_107 : decode cL_isClimber 107 = .ok (.bipush 7, 2) := by decide +kernel
theorem dL_isClimber_109 : decode cL_isClimber 109 = .ok (.iload_n 1, 1) := by decide +kernel
theorem dL_isClimber_110 : decode cL_isClimber 110 = .ok (.imul, 1) := by decide +kernel
theorem dL_isClimber_111 : decode cL_isClimber 111 = .ok (.iaload, 1) := by decide +kernel
theorem dL_isClimber_112 : decode cL_isClimber 112 = .ok (.aload 4, 2) := by decide +kernel
theorem dL_isClimber_114 : decode cL_isClimber 114 = .ok (.bipush 7, 2) := by decide +kernel
theorem dL_isClimber_116 : decode cL_isClimber 116 = .ok (.iload_n 1, 1) := by decide +kernel
theorem dL_isClimber_117 : decode cL_isClimber 117 = .ok (.imul, 1) := by decide +kernel
theorem dL_isClimber_118 : decode cL_isClimber 118 = .ok (.iconst 2, 1) := by decide +kernel
theorem dL_isClimber_119 : decode cL_isClimber 119 = .ok (.iadd, 1) := by decide +kernel
theorem dL_isClimber_120 : decode cL_isClimber 120 = .ok (.iaload, 1) := by decide +kernel
theorem dL_isClimber_121 : decode cL_isClimber 121 = .ok (.aload 4, 2) := by decide +kernel
theorem dL_isClimber_123 : decode cL_isClimber 123 = .ok (.bipush 7, 2) := by decide +kernel
theorem dL_isClimber_125 : decode cL_isClimber 125 = .ok (.iload_n 1, 1) := by decide +kernel
theorem dL_isClimber_126 : decode cL_isClimber 126 = .ok (.imul, 1) := by decide +kernel
theorem dL_isClimber_127 : decode cL_isClimber 127 = .ok (.iconst 3, 1) := by decide +kernel
theorem dL_isClimber_128 : decode cL_isClimber 128 = .ok (.iadd, 1) := by decide +kernel
theorem dL_isClimber_129 : decode cL_isClimber 129 = .ok (.iaload, 1) := by decide +kernel
theorem dL_isClimber_130 : decode cL_isClimber 130 = .ok (.iconst 1, 1) := by decide +kernel
theorem dL_isClimber_131 : decode cL_isClimber 131 = .ok (.if_icmp .ne 7, 3) := by decide +kernel
theorem dL_isClimber_134 : decode cL_isClimber 134 = .ok (.iconst 1, 1) := by decide +kernel
theorem dL_isClimber_135 : decode cL_isClimber 135 = .ok (.goto 4, 3) := by decide +kernel
theorem dL_isClimber_138 : decode cL_isClimber 138 = .ok (.iconst 0, 1) := by decide +kernel
theorem dL_isClimber_139 : decode cL_isClimber 139 = .ok (.aload_n 2, 1) := by decide +kernel
theorem dL_isClimber_140 : decode cL_isClimber 140 = .ok (.aload_n 3, 1) := by decide +kernel
theorem dL_isClimber_141 : decode cL_isClimber 141 = .ok (.aload 5, 2) := by decide +kernel
theorem dL_isClimber_143 : decode cL_isClimber 143 = .ok (.invokestatic 136, 3) := by decide +kernel
theorem dL_isClimber_146 : decode cL_isClimber 146 = .ok (.istore 7, 2) := by decide +kernel
theorem dL_isClimber_148 : decode cL_isClimber 148 = .ok (.iload 6, 2) := by decide +kernel
theorem dL_isClimber_150 : decode cL_isClimber 150 = .ok (.ifCond .eq 85, 3) := by decide +kernel
theorem dL_isClimber_153 : decode cL_isClimber 153 = .ok (.aload_n 0, 1) := by decide +kernel
theorem dL_isClimber_154 : decode cL_isClimber 154 = .ok (.iload_n 1, 1) := by decide +kernel
theorem dL_isClimber_155 : decode cL_isClimber 155 = .ok (.bipush 7, 2) := by decide +kernel
theorem dL_isClimber_157 : decode cL_isClimber 157 = .ok (.invokestatic 145, 3) := by decide +kernel
theorem dL_isClimber_160 : decode cL_isClimber 160 = .ok (.iload 7, 2) := by decide +kernel
theorem dL_isClimber_162 : decode cL_isClimber 162 = .ok (.if_icmp .ne 73, 3) := by decide +kernel
theorem dL_isClimber_165 : decode cL_isClimber 165 = .ok (.aload_n 0, 1) := by decide +kernel
theorem dL_isClimber_166 : decode cL_isClimber 166 = .ok (.iload_n 1, 1) := by decide +kernel
theorem dL_isClimber_167 : decode cL_isClimber 167 = .ok (.bipush 8, 2) := by decide +kernel
theorem dL_isClimber_169 : decode cL_isClimber 169 = .ok (.invokestatic 145, 3) := by decide +kernel
theorem dL_isClimber_172 : decode cL_isClimber 172 = .ok (.iload 7, 2) := by decide +kernel
theorem dL_isClimber_174 : decode cL_isClimber 174 = .ok (.if_icmp .ne 61, 3) := by decide +kernel
theorem dL_isClimber_177 : decode cL_isClimber 177 = .ok (.aload_n 0, 1) := by decide +kernel
theorem dL_isClimber_178 : decode cL_isClimber 178 = .ok (.iload_n 1, 1) := by decide +kernel
theorem dL_isClimber_179 : decode cL_isClimber 179 = .ok (.bipush 9, 2) := by decide +kernel
theorem dL_isClimber_181 : decode cL_isClimber 181 = .ok (.invokestatic 145, 3) := by decide +kernel
theorem dL_isClimber_184 : decode cL_isClimber 184 = .ok (.iconst (-1), 1) := by decide +kernel
theorem dL_isClimber_185 : decode cL_isClimber 185 = .ok (.if_icmp .ne 7, 3) := by decide +kernel
theorem dL_isClimber_188 : decode cL_isClimber 188 = .ok (.iconst 1, 1) := by decide +kernel
theorem dL_isClimber_189 : decode cL_isClimber 189 = .ok (.goto 4, 3) := by decide +kernel
theorem dL_isClimber_192 : decode cL_isClimber 192 = .ok (.iconst 0, 1) := by decide +kernel
theorem dL_isClimber_193 : decode cL_isClimber 193 = .ok (.iload 7, 2) := by decide +kernel
theorem dL_isClimber_195 : decode cL_isClimber 195 = .ok (.iconst (-1), 1) := by decide +kernel
theorem dL_isClimber_196 : decode cL_isClimber 196 = .ok (.if_icmp .ne 7, 3) := by decide +kernel
theorem dL_isClimber_199 : decode cL_isClimber 199 = .ok (.iconst 1, 1) := by decide +kernel
theorem dL_isClimber_200 : decode cL_isClimber 200 = .ok (.goto 4, 3) := by decide +kernel
theorem dL_isClimber_203 : decode cL_isClimber 203 = .ok (.iconst 0, 1) := by decide +kernel
theorem dL_isClimber_204 : decode cL_isClimber 204 = .ok (.if_icmp .ne 31, 3) := by decide +kernel
theorem dL_isClimber_207 : decode cL_isClimber 207 = .ok (.iload 7, 2) := by decide +kernel
theorem dL_isClimber_209 : decode cL_isClimber 209 = .ok (.ifCond .ne 22, 3) := by decide +kernel
theorem dL_isClimber_212 : decode cL_isClimber 212 = .ok (.aload_n 0, 1) := by decide +kernel
theorem dL_isClimber_213 : decode cL_isClimber 213 = .ok (.iload_n 1, 1) := by decide +kernel
theorem dL_isClimber_214 : decode cL_isClimber 214 = .ok (.bipush 9, 2) := by decide +kernel
theorem dL_isClimber_216 : decode cL_isClimber 216 = .ok (.invokestatic 145, 3) := by decide +kernel
theorem dL_isClimber_219 : decode cL_isClimber 219 = .ok (.aload 4, 2) := by decide +kernel
theorem dL_isClimber_221 : decode cL_isClimber 221 = .ok (.bipush 7, 2) := by decide +kernel
theorem dL_isClimber_223 : decode cL_isClimber 223 = .ok (.iload_n 1, 1) := by decide +kernel
theorem dL_isClimber_224 : decode cL_isClimber 224 = .ok (.imul, 1) := by decide +kernel
theorem dL_isClimber_225 : decode cL_isClimber 225 = .ok (.iconst 2, 1) := by decide +kernel
theorem dL_isClimber_226 : decode cL_isClimber 226 = .ok (.iadd, 1) := by decide +kernel
theorem dL_isClimber_227 : decode cL_isClimber 227 = .ok (.iaload, 1) := by decide +kernel
theorem dL_isClimber_228 : decode cL_isClimber 228 = .ok (.if_icmp .ne 7, 3) := by decide +kernel
theorem dL_isClimber_231 : decode cL_isClimber 231 = .ok (.iconst 1, 1) := by decide +kernel
theorem dL_isClimber_232 : decode cL_isClimber 232 = .ok (.goto 4, 3) := by decide +kernel
theorem dL_isClimber_235 : decode cL_isClimber 235 = .ok (.iconst 0, 1) := by decide +kernel
theorem dL_isClimber_236 : decode cL_isClimber 236 = .ok (.ireturn, 1) := by decide +kernel
set_option maxRecDepth 20000 in
theorem ggL_isSo_L_isBarred : GoodIn wsL_isSo wsL_isBarred := goodIn_r _ [4, 5, 6, 3, 7] (by decide +kernel) (by decide +kernel)
set_option maxRecDepth 20000 in
theorem gL_isSo_L_isBarred : GoodIn wsL_isSo (va_wsS RL 76 yL_isBarred wsL_isBarred) := goodIn_app (goodIn_of _ (by decide +kernel)) ggL_isSo_L_isBarred
set_option maxRecDepth 20000 in
theorem ggL_isSo_L_linked : GoodIn wsL_isSo wsL_linked := goodIn_r _ [10, 5, 6, 3, 7] (by decide +kernel) (by decide +kernel)
set_option maxRecDepth 20000 in
theorem gL_isSo_L_linked : GoodIn wsL_isSo (va_wsS RL 72 yL_linked wsL_linked) := goodIn_app (goodIn_of _ (by decide +kernel)) ggL_isSo_L_linked
set_option maxRecDepth 20000 in
theorem ggL_isSo_L_ladder : GoodIn wsL_isSo wsL_ladder := goodIn_r _ [13, 14, 15, 3, 16] (by decide +kernel) (by decide +kernel)
set_option maxRecDepth 20000 in
theorem gL_isSo_L_ladder : GoodIn wsL_isSo (va_wsS RL 140 yL_ladder wsL_ladder) := goodIn_app (goodIn_of _ (by decide +kernel)) ggL_isSo_L_ladder
set_option maxRecDepth 20000 in
theorem ggL_isSo_L_count : GoodIn wsL_isSo wsL_count := goodIn_ca (goodIn_r _ [19, 20, 21, 22, 23, 24, 25, 26, 27, 28, 29, 30, 31, 32, 33, 34, 35, 36, 37, 38, 39, 40, 41, 42, 43, 44, 45, 46, 47, 48, 49, 50, 51, 52, 53, 54, 55, 56, 57, 58, 59, 60, 61, 62, 63, 64, 65, 66, 67, 68, 69, 70, 71, 72, 73, 74, 75, 76, 77, 78, 79, 80, 81, 82, 83, 84, 85, 86, 87, 88, 89, 90, 91, 92, 93, 94, 95, 96, 97, 98, 99, 100, 101, 102, 103, 104, 105, 106, 107, 108, 109, 110, 111, 112, 113, 114, 115, 116, 117, 118, 119, 120, 121, 122, 305, 306, 307, 308, 309, 310, 311, 312, 313, 314, 315, 316, 317, 318, 319, 320, 321, 322, 323, 324, 325, 326, 327, 328, 329, 330, 331] (by decide +kernel) (by decide +kernel)) (goodIn_sub (fun _ h => List.mem_cons_of_mem _ (List.mem_append_left _ (List.mem_append_right _ h))) (by decide +kernel))
set_option maxRecDepth 20000 in
theorem gL_isSo_L_count : GoodIn wsL_isSo (va_wsS RL 147 yL_count wsL_count) := goodIn_app (goodIn_of _ (by decide +kernel)) ggL_isSo_L_count
set_option maxRecDepth 20000 in
theorem ggL_isSo_L_setting : GoodIn wsL_isSo wsL_setting := goodIn_ca (goodIn_r _ [125, 126, 127, 128, 129, 24, 130, 131, 132, 32, 133, 134, 135, 44, 136, 103, 137, 305, 306, 307, 308, 309, 310, 311, 312, 313, 314, 315, 316, 317, 318, 319, 320, 321, 322, 323, 324, 325, 326] (by decide +kernel) (by decide +kernel)) (goodIn_sub (fun _ h => List.mem_cons_of_mem _ (List.mem_append_right _ h)) (by decide +kernel))
set_option maxRecDepth 20000 in
theorem gL_isSo_L_setting : GoodIn wsL_isSo (va_wsS RL 149 yL_setting wsL_setting) := goodIn_app (goodIn_of _ (by decide +kernel)) ggL_isSo_L_setting
set_option maxRecDepth 20000 in
theorem ggL_isSo_X5_meanLadder : GoodIn wsL_isSo wsX5_meanLadder := goodIn_r _ [141, 32, 142, 113, 114, 115, 44, 116, 117, 305, 306, 307, 308, 309, 310, 311, 312, 313, 314, 315, 316, 317, 318, 319, 320, 321, 322, 323, 324, 325, 326] (by decide +kernel) (by decide +kernel)
set_option maxRecDepth 20000 in
theorem gL_isSo_X5_meanLadder : GoodIn wsL_isSo (wsV RL 151 RX5 yX5_meanLadder wsX5_meanLadder) := goodIn_app (goodIn_of _ (by decide +kernel)) ggL_isSo_X5_meanLadder
set_option maxRecDepth 20000 in
theorem ggL_isSo_X5_linkShare : GoodIn wsL_isSo wsX5_linkShare := goodIn_r _ [146, 32, 33, 41, 42, 43, 44, 45, 46, 47, 48, 49, 50, 51, 52, 53, 305, 306, 307, 308, 309, 310, 311, 312, 313, 314, 315, 316, 317, 318, 319, 320, 321, 322, 323, 324, 325, 326] (by decide +kernel) (by decide +kernel)
set_option maxRecDepth 20000 in
theorem gL_isSo_X5_linkShare : GoodIn wsL_isSo (wsV RL 155 RX5 yX5_linkShare wsX5_linkShare) := goodIn_app (goodIn_of _ (by decide +kernel)) ggL_isSo_X5_linkShare
set_option maxRecDepth 20000 in
theorem ggL_isSo_L_low : GoodIn wsL_isSo wsL_low := goodIn_r _ [149, 150] (by decide +kernel) (by decide +kernel)
set_option maxRecDepth 20000 in
theorem gL_isSo_L_low : GoodIn wsL_isSo (va_wsS RL 94 yL_low wsL_low) := goodIn_app (goodIn_of _ (by decide +kernel)) ggL_isSo_L_low
set_option maxRecDepth 20000 in
theorem ggL_isSo_L_isClimber : GoodIn wsL_isSo wsL_isClimber := goodIn_ca (goodIn_ca (goodIn_r _ [153, 154, 155, 3, 156, 126, 20, 157, 158, 159, 24, 160, 131, 132, 26, 27, 161, 162, 163, 164, 165, 166, 167, 32, 168, 169, 170, 171, 44, 172, 112, 173, 174, 175, 176, 117, 122, 177, 178, 179, 180, 181, 182, 183, 184, 185, 186, 187, 188, 189, 190, 191, 192, 93, 94, 95, 96, 69, 97, 98, 99, 100, 101, 102, 103, 104, 105, 106, 193, 89, 90, 91, 46, 70, 71, 194, 195, 196, 197, 198, 199, 200, 201, 202, 203, 62, 63, 64, 65, 66, 67, 68, 204, 205, 206, 207, 208, 209, 210, 211, 212, 213, 214, 215, 216, 217, 49, 218, 219, 220, 221, 222, 14, 15, 16, 223, 224, 225, 1, 2, 4, 5, 6, 7, 305, 306, 307, 308, 309, 310, 311, 312, 313, 314, 315, 316, 317, 318, 319, 320, 321, 322, 323, 324, 325, 326, 332, 333, 334, 335] (by decide +kernel) (by decide +kernel)) (goodIn_sub (fun _ h => List.mem_cons_of_mem _ (List.mem_append_right _ h)) (by decide +kernel))) (goodIn_sub (fun _ h => List.mem_cons_of_mem _ (List.mem_append_left _ (List.mem_append_right _ h))) (by decide +kernel))
set_option maxRecDepth 20000 in
theorem gL_isSo_L_isClimber : GoodIn wsL_isSo (va_wsS RL 159 yL_isClimber wsL_isClimber) := goodIn_app (goodIn_of _ (by decide +kernel)) ggL_isSo_L_isClimber
set_option maxRecDepth 20000 in
theorem ggL_isSo_X5_safest : GoodIn wsL_isSo wsX5_safest := goodIn_r _ [229, 32, 33, 230, 231, 232, 44, 233, 234, 235, 236, 237, 96, 238, 239, 240, 241, 97, 65, 66, 67, 68, 69, 104, 105, 106, 98, 99, 100, 101, 102, 103, 305, 306, 307, 308, 309, 310, 311, 312, 313, 314, 315, 316, 317, 318, 319, 320, 321, 322, 323, 324, 325, 326] (by decide +kernel) (by decide +kernel)
set_option maxRecDepth 20000 in
theorem gL_isSo_X5_safest : GoodIn wsL_isSo (wsV RL 163 RX5 yX5_safest wsX5_safest) := goodIn_app (goodIn_of _ (by decide +kernel)) ggL_isSo_X5_safest
set_option maxRecDepth 20000 in
theorem ggL_isSo_L_isWord : GoodIn wsL_isSo wsL_isWord := goodIn_ca (goodIn_ca (goodIn_r _ [244, 11, 12, 3, 13, 14, 15, 16, 8, 9, 10, 5, 6, 7, 1, 2, 4, 245, 246, 247, 126, 20, 248, 249, 250, 24, 251, 131, 132, 26, 27, 32, 252, 66, 67, 44, 68, 69, 253, 254, 255, 256, 34, 257, 235, 236, 237, 96, 238, 239, 240, 241, 97, 65, 104, 105, 106, 98, 99, 100, 101, 102, 103, 258, 62, 63, 64, 46, 107, 48, 49, 50, 51, 52, 53, 259, 260, 261, 262, 112, 263, 85, 86, 57, 87, 88, 89, 90, 91, 70, 71, 264, 214, 215, 216, 217, 218, 219, 230, 231, 232, 233, 234, 265, 266, 267, 268, 305, 306, 307, 308, 309, 310, 311, 312, 313, 314, 315, 316, 317, 318, 319, 320, 321, 322, 323, 324, 325, 326] (by decide +kernel) (by decide +kernel)) (goodIn_sub (fun _ h => List.mem_cons_of_mem _ (List.mem_append_right _ h)) (by decide +kernel))) (goodIn_sub (fun _ h => List.mem_cons_of_mem _ (List.mem_append_left _ (List.mem_append_right _ h))) (by decide +kernel))
set_option maxRecDepth 20000 in
theorem gL_isSo_L_isWord : GoodIn wsL_isSo (va_wsS RL 166 yL_isWord wsL_isWord) := goodIn_app (goodIn_of _ (by decide +kernel)) ggL_isSo_L_isWord
set_option maxRecDepth 20000 in
theorem ggL_isSo_L_plain : GoodIn wsL_isSo wsL_plain := goodIn_ca (goodIn_r _ [271, 126, 272, 273, 274, 24, 275, 131, 132, 32, 168, 252, 66, 67, 44, 68, 69, 276, 277, 278, 184, 279, 70, 71, 193, 89, 90, 91, 46, 305, 306, 307, 308, 309, 310, 311, 312, 313, 314, 315, 316, 317, 318, 319, 320, 321, 322, 323, 324, 325, 326] (by decide +kernel) (by decide +kernel)) (goodIn_sub (fun _ h => List.mem_cons_of_mem _ (List.mem_append_right _ h)) (by decide +kernel))
set_option maxRecDepth 20000 in
theorem gL_isSo_L_plain : GoodIn wsL_isSo (va_wsS RL 169 yL_plain wsL_plain) := goodIn_app (goodIn_of _ (by decide +kernel)) ggL_isSo_L_plain
set_option maxRecDepth 20000 in
theorem ggL_isSo_L_why : GoodIn wsL_isSo wsL_why := goodIn_ca (goodIn_r _ [282, 126, 283, 284, 285, 24, 286, 131, 132, 32, 161, 162, 163, 252, 66, 67, 44, 68, 69, 287, 288, 289, 290, 291, 178, 179, 180, 112, 292, 170, 171, 172, 173, 174, 175, 176, 117, 122, 293, 62, 63, 64, 46, 65, 70, 71, 234, 235, 236, 237, 96, 238, 239, 240, 241, 97, 104, 105, 106, 98, 99, 100, 101, 102, 103, 294, 260, 261, 262, 305, 306, 307, 308, 309, 310, 311, 312, 313, 314, 315, 316, 317, 318, 319, 320, 321, 322, 323, 324, 325, 326] (by decide +kernel) (by decide +kernel)) (goodIn_sub (fun _ h => List.mem_cons_of_mem _ (List.mem_append_right _ h)) (by decide +kernel))
set_option maxRecDepth 20000 in
theorem gL_isSo_L_why : GoodIn wsL_isSo (va_wsS RL 171 yL_why wsL_why) := goodIn_app (goodIn_of _ (by decide +kernel)) ggL_isSo_L_why
set_option maxRecDepth 20000 in
theorem ggL_isSo_L_whyNot : GoodIn wsL_isSo wsL_whyNot := goodIn_r _ [297, 8, 9, 3, 10, 5, 6, 7, 1, 2, 4, 266, 267, 268] (by decide +kernel) (by decide +kernel)
set_option maxRecDepth 20000 in
theorem gL_isSo_L_whyNot : GoodIn wsL_isSo (va_wsS RL 128 yL_whyNot wsL_whyNot) := goodIn_app (goodIn_of _ (by decide +kernel)) ggL_isSo_L_whyNot
set_option maxRecDepth 20000 in
theorem ggL_isSo_L_ifPut : GoodIn wsL_isSo wsL_ifPut := goodIn_ca (goodIn_ca (goodIn_r _ [300, 126, 20, 301, 302, 303, 24, 304, 131, 132, 26, 27, 32, 168, 252, 66, 67, 44, 68, 69, 257, 235, 236, 237, 96, 238, 239, 240, 241, 97, 65, 104, 105, 106, 98, 99, 100, 101, 102, 103, 181, 182, 183, 184, 185, 186, 187, 188, 189, 190, 191, 192, 93, 94, 95, 193, 89, 90, 91, 46, 70, 71, 305, 306, 307, 308, 309, 310, 311, 312, 313, 314, 315, 316, 317, 318, 319, 320, 321, 322, 323, 324, 325, 326, 332, 333, 334, 335] (by decide +kernel) (by decide +kernel)) (goodIn_sub (fun _ h => List.mem_cons_of_mem _ (List.mem_append_right _ h)) (by decide +kernel))) (goodIn_sub (fun _ h => List.mem_cons_of_mem _ (List.mem_append_left _ (List.mem_append_right _ h))) (by decide +kernel))
set_option maxRecDepth 20000 in
theorem gL_isSo_L_ifPut : GoodIn wsL_isSo (va_wsS RL 173 yL_ifPut wsL_ifPut) := goodIn_app (goodIn_of _ (by decide +kernel)) ggL_isSo_L_ifPut
set_option maxRecDepth 20000 in
theorem ggL_isSo_L_fewest : GoodIn wsL_isSo wsL_fewest := goodIn_r _ [222, 14, 15, 3, 16, 223, 224, 225, 1, 2, 4, 5, 6, 7] (by decide +kernel) (by decide +kernel)
set_option maxRecDepth 20000 in
theorem gL_isSo_L_fewest : GoodIn wsL_isSo (va_wsS RL 136 yL_fewest wsL_fewest) := goodIn_app (goodIn_of _ (by decide +kernel)) ggL_isSo_L_fewest
theorem dL_isSo_0 : decode cL_isSo 0 = .ok (.iconst 0, 1) := by decide +kernel
theorem dL_isSo_1 : decode cL_isSo 1 = .ok (.istore 6, 2) := by decide +kernel
theorem dL_isSo_3 : decode cL_isSo 3 = .ok (.iconst 0, 1) := by decide +kernel
theorem dL_isSo_4 : decode cL_isSo 4 = .ok (.istore 7, 2) := by decide +kernel
theorem dL_isSo_6 : decode cL_isSo 6 = .ok (.iconst 0, 1) := by decide +kernel
theorem dL_isSo_7 : decode cL_isSo 7 = .ok (.istore 8, 2) := by decide +kernel
theorem dL_isSo_9 : decode cL_isSo 9 = .ok (.iconst 0, 1) := by decide +kernel
theorem dL_isSo_10 : decode cL_isSo 10 = .ok (.istore 9, 2) := by decide +kernel
theorem dL_isSo_12 : decode cL_isSo 12 = .ok (.iload 9, 2) := by decide +kernel
theorem dL_isSo_14 : decode cL_isSo 14 = .ok (.aload_n 2, 1) := by decide +kernel
theorem dL_isSo_15 : decode cL_isSo 15 = .ok (.iconst 0, 1) := by decide +kernel
theorem dL_isSo_16 : decode cL_isSo 16 = .ok (.iaload, 1) := by decide +kernel
theorem dL_isSo_17 : decode cL_isSo 17 = .ok (.if_icmp .ge 117, 3) := by decide +kernel
theorem dL_isSo_20 : decode cL_isSo 20 = .ok (.iconst 1, 1) := by decide +kernel
theorem dL_isSo_21 : decode cL_isSo 21 = .ok (.istore 10, 2) := by decide +kernel
theorem dL_isSo_23 : decode cL_isSo 23 = .ok (.iload 8, 2) := by decide +kernel
theorem dL_isSo_25 : decode cL_isSo 25 = .ok (.aload_n 3, 1) := by decide +kernel
theorem dL_isSo_26 : decode cL_isSo 26 = .ok (.iload 9, 2) := by decide +kernel
theorem dL_isSo_28 : decode cL_isSo 28 = .ok (.iaload, 1) := by decide +kernel
theorem dL_isSo_29 : decode cL_isSo 29 = .ok (.iconst 0, 1) := by decide +kernel
theorem dL_isSo_30 : decode cL_isSo 30 = .ok (.aload_n 2, 1) := by decide +kernel
theorem dL_isSo_31 : decode cL_isSo 31 = .ok (.invokestatic 76, 3) := by decide +kernel
theorem dL_isSo_34 : decode cL_isSo 34 = .ok (.ifCond .eq 7, 3) := by decide +kernel
theorem dL_isSo_37 : decode cL_isSo 37 = .ok (.iconst 1, 1) := by decide +kernel
theorem dL_isSo_38 : decode cL_isSo 38 = .ok (.goto 4, 3) := by decide +kernel
theorem dL_isSo_41 : decode cL_isSo 41 = .ok (.iconst 0, 1) := by decide +kernel
theorem dL_isSo_42 : decode cL_isSo 42 = .ok (.iadd, 1) := by decide +kernel
theorem dL_isSo_43 : decode cL_isSo 43 = .ok (.istore 8, 2) := by decide +kernel
theorem dL_isSo_45 : decode cL_isSo 45 = .ok (.iconst 0, 1) := by decide +kernel
theorem dL_isSo_46 : decode cL_isSo 46 = .ok (.istore 11, 2) := by decide +kernel
theorem dL_isSo_48 : decode cL_isSo 48 = .ok (.iload 11, 2) := by decide +kernel
theorem dL_isSo_50 : decode cL_isSo 50 = .ok (.iload 9, 2) := by decide +kernel
theorem dL_isSo_52 : decode cL_isSo 52 = .ok (.if_icmp .ge 61, 3) := by decide +kernel
theorem dL_isSo_55 : decode cL_isSo 55 = .ok (.iload 6, 2) := by decide +kernel
theorem dL_isSo_57 : decode cL_isSo 57 = .ok (.aload_n 3, 1) := by decide +kernel
theorem dL_isSo_58 : decode cL_isSo 58 = .ok (.iload 9, 2) := by decide +kernel
theorem dL_isSo_60 : decode cL_isSo 60 = .ok (.iaload, 1) := by decide +kernel
theorem dL_isSo_61 : decode cL_isSo 61 = .ok (.aload_n 3, 1) := by decide +kernel
theorem dL_isSo_62 : decode cL_isSo 62 = .ok (.iload 11, 2) := by decide +kernel
theorem dL_isSo_64 : decode cL_isSo 64 = .ok (.iaload, 1) := by decide +kernel
theorem dL_isSo_65 : decode cL_isSo 65 = .ok (.aload_n 2, 1) := by decide +kernel
theorem dL_isSo_66 : decode cL_isSo 66 = .ok (.iconst 4, 1) := by decide +kernel
theorem dL_isSo_67 : decode cL_isSo 67 = .ok (.iaload, 1) := by decide +kernel
theorem dL_isSo_68 : decode cL_isSo 68 = .ok (.invokestatic 72, 3) := by decide +kernel
theorem dL_isSo_71 : decode cL_isSo 71 = .ok (.ifCond .eq 7, 3) := by decide +kernel
theorem dL_isSo_74 : decode cL_isSo 74 = .ok (.iconst 1, 1) := by decide +kernel
theorem dL_isSo_75 : decode cL_isSo 75 = .ok (.goto 4, 3) := by decide +kernel
theorem dL_isSo_78 : decode cL_isSo 78 = .ok (.iconst 0, 1) := by decide +kernel
theorem dL_isSo_79 : decode cL_isSo 79 = .ok (.iadd, 1) := by decide +kernel
theorem dL_isSo_80 : decode cL_isSo 80 = .ok (.istore 6, 2) := by decide +kernel
theorem dL_isSo_82 : decode cL_isSo 82 = .ok (.iload 10, 2) := by decide +kernel
theorem dL_isSo_84 : decode cL_isSo 84 = .ok (.ifCond .eq 20, 3) := by decide +kernel
theorem dL_isSo_87 : decode cL_isSo 87 = .ok (.iload 9, 2) := by decide +kernel
theorem dL_isSo_89 : decode cL_isSo 89 = .ok (.iload 11, 2) := by decide +kernel
theorem dL_isSo_91 : decode cL_isSo 91 = .ok (.aload_n 2, 1) := by decide +kernel
theorem dL_isSo_92 : decode cL_isSo 92 = .ok (.aload 5, 2) := by decide +kernel
theorem dL_isSo_94 : decode cL_isSo 94 = .ok (.invokestatic 140, 3) := by decide +kernel
theorem dL_isSo_97 : decode cL_isSo 97 = .ok (.ifCond .ge 7, 3) := by decide +kernel
theorem dL_isSo_100 : decode cL_isSo 100 = .ok (.iconst 1, 1) := by decide +kernel
theorem dL_isSo_101 : decode cL_isSo 101 = .ok (.goto 4, 3) := by decide +kernel
theorem dL_isSo_104 : decode cL_isSo 104 = .ok (.iconst 0, 1) := by decide +kernel
theorem dL_isSo_105 : decode cL_isSo 105 = .ok (.istore 10, 2) := by decide +kernel
theorem dL_isSo_107 : decode cL_isSo 107 = .ok (.iinc 11 1, 3) := by decide +kernel
theorem dL_isSo_110 : decode cL_isSo 110 = .ok (.goto (-62), 3) := by decide +kernel
theorem dL_isSo_113 : decode cL_isSo 113 = .ok (.iload 7, 2) := by decide +kernel
theorem dL_isSo_115 : decode cL_isSo 115 = .ok (.iload 10, 2) := by decide +kernel
theorem dL_isSo_117 : decode cL_isSo 117 = .ok (.ifCond .eq 7, 3) := by decide +kernel
theorem dL_isSo_120 : decode cL_isSo 120 = .ok (.iconst 1, 1) := by decide +kernel
theorem dL_isSo_121 : decode cL_isSo 121 = .ok (.goto 4, 3) := by decide +kernel
theorem dL_isSo_124 : decode cL_isSo 124 = .ok (.iconst 0, 1) := by decide +kernel
theorem dL_isSo_125 : decode cL_isSo 125 = .ok (.iadd, 1) := by decide +kernel
theorem dL_isSo_126 : decode cL_isSo 126 = .ok (.istore 7, 2) := by decide +kernel
theorem dL_isSo_128 : decode cL_isSo 128 = .ok (.iinc 9 1, 3) := by decide +kernel
theorem dL_isSo_131 : decode cL_isSo 131 = .ok (.goto (-119), 3) := by decide +kernel
theorem dL_isSo_134 : decode cL_isSo 134 = .ok (.aload 4, 2) := by decide +kernel
theorem dL_isSo_136 : decode cL_isSo 136 = .ok (.iconst 0, 1) := by decide +kernel
theorem dL_isSo_137 : decode cL_isSo 137 = .ok (.iaload, 1) := by decide +kernel
theorem dL_isSo_138 : decode cL_isSo 138 = .ok (.ifCond .ge 7, 3) := by decide +kernel
theorem dL_isSo_141 : decode cL_isSo 141 = .ok (.iconst 0, 1) := by decide +kernel
theorem dL_isSo_142 : decode cL_isSo 142 = .ok (.goto 4, 3) := by decide +kernel
theorem dL_isSo_145 : decode cL_isSo 145 = .ok (.iconst 1, 1) := by decide +kernel
theorem dL_isSo_146 : decode cL_isSo 146 = .ok (.aload 4, 2) := by decide +kernel
theorem dL_isSo_148 : decode cL_isSo 148 = .ok (.bipush 7, 2) := by decide +kernel
theorem dL_isSo_150 : decode cL_isSo 150 = .ok (.iaload, 1) := by decide +kernel
theorem dL_isSo_151 : decode cL_isSo 151 = .ok (.ifCond .ge 7, 3) := by decide +kernel
theorem dL_isSo_154 : decode cL_isSo 154 = .ok (.iconst 0, 1) := by decide +kernel
theorem dL_isSo_155 : decode cL_isSo 155 = .ok (.goto 4, 3) := by decide +kernel
theorem dL_isSo_158 : decode cL_isSo 158 = .ok (.iconst 1, 1) := by decide +kernel
theorem dL_isSo_159 : decode cL_isSo 159 = .ok (.iadd, 1) := by decide +kernel
theorem dL_isSo_160 : decode cL_isSo 160 = .ok (.aload 4, 2) := by decide +kernel
theorem dL_isSo_162 : decode cL_isSo 162 = .ok (.bipush 14, 2) := by decide +kernel
theorem dL_isSo_164 : decode cL_isSo 164 = .ok (.iaload, 1) := by decide +kernel
theorem dL_isSo_165 : decode cL_isSo 165 = .ok (.ifCond .ge 7, 3) := by decide +kernel
theorem dL_isSo_168 : decode cL_isSo 168 = .ok (.iconst 0, 1) := by decide +kernel
theorem dL_isSo_169 : decode cL_isSo 169 = .ok (.goto 4, 3) := by decide +kernel
theorem dL_isSo_172 : decode cL_isSo 172 = .ok (.iconst 1, 1) := by decide +kernel
theorem dL_isSo_173 : decode cL_isSo 173 = .ok (.iadd, 1) := by decide +kernel
theorem dL_isSo_174 : decode cL_isSo 174 = .ok (.istore 9, 2) := by decide +kernel
theorem dL_isSo_176 : decode cL_isSo 176 = .ok (.aload_n 0, 1) := by decide +kernel
theorem dL_isSo_177 : decode cL_isSo 177 = .ok (.iconst 0, 1) := by decide +kernel
theorem dL_isSo_178 : decode cL_isSo 178 = .ok (.invokestatic 147, 3) := by decide +kernel
theorem dL_isSo_181 : decode cL_isSo 181 = .ok (.aload_n 2, 1) := by decide +kernel
theorem dL_isSo_182 : decode cL_isSo 182 = .ok (.iconst 0, 1) := by decide +kernel
theorem dL_isSo_183 : decode cL_isSo 183 = .ok (.iaload, 1) := by decide +kernel
theorem dL_isSo_184 : decode cL_isSo 184 = .ok (.if_icmp .ne 154, 3) := by decide +kernel
theorem dL_isSo_187 : decode cL_isSo 187 = .ok (.aload_n 0, 1) := by decide +kernel
theorem dL_isSo_188 : decode cL_isSo 188 = .ok (.iconst 1, 1) := by decide +kernel
theorem dL_isSo_189 : decode cL_isSo 189 = .ok (.invokestatic 147, 3) := by decide +kernel
theorem dL_isSo_192 : decode cL_isSo 192 = .ok (.iload 6, 2) := by decide +kernel
theorem dL_isSo_194 : decode cL_isSo 194 = .ok (.if_icmp .ne 144, 3) := by decide +kernel
theorem dL_isSo_197 : decode cL_isSo 197 = .ok (.aload_n 0, 1) := by decide +kernel
theorem dL_isSo_198 : decode cL_isSo 198 = .ok (.iconst 2, 1) := by decide +kernel
theorem dL_isSo_199 : decode cL_isSo 199 = .ok (.invokestatic 147, 3) := by decide +kernel
theorem dL_isSo_202 : decode cL_isSo 202 = .ok (.iload 7, 2) := by decide +kernel
theorem dL_isSo_204 : decode cL_isSo 204 = .ok (.if_icmp .ne 134, 3) := by decide +kernel
theorem dL_isSo_207 : decode cL_isSo 207 = .ok (.aload_n 0, 1) := by decide +kernel
theorem dL_isSo_208 : decode cL_isSo 208 = .ok (.iconst 3, 1) := by decide +kernel
theorem dL_isSo_209 : decode cL_isSo 209 = .ok (.invokestatic 147, 3) := by decide +kernel
theorem dL_isSo_212 : decode cL_isSo 212 = .ok (.iload 7, 2) := by decide +kernel
theorem dL_isSo_214 : decode cL_isSo 214 = .ok (.if_icmp .ne 124, 3) := by decide +kernel
theorem dL_isSo_217 : decode cL_isSo 217 = .ok (.aload_n 0, 1) := by decide +kernel
theorem dL_isSo_218 : decode cL_isSo 218 = .ok (.iconst 4, 1) := by decide +kernel
theorem dL_isSo_219 : decode cL_isSo 219 = .ok (.invokestatic 147, 3) := by decide +kernel
theorem dL_isSo_222 : decode cL_isSo 222 = .ok (.aload_n 2, 1) := by decide +kernel
theorem dL_isSo_223 : decode cL_isSo 223 = .ok (.iconst 1, 1) := by decide +kernel
theorem dL_isSo_224 : decode cL_isSo 224 = .ok (.iaload, 1) := by decide +kernel
theorem dL_isSo_225 : decode cL_isSo 225 = .ok (.if_icmp .ne 113, 3) := by decide +kernel
theorem dL_isSo_228 : decode cL_isSo 228 = .ok (.aload_n 0, 1) := by decide +kernel
theorem dL_isSo_229 : decode cL_isSo 229 = .ok (.iconst 5, 1) := by decide +kernel
theorem dL_isSo_230 : decode cL_isSo 230 = .ok (.invokestatic 147, 3) := by decide +kernel
theorem dL_isSo_233 : decode cL_isSo 233 = .ok (.aload_n 2, 1) := by decide +kernel
theorem dL_isSo_234 : decode cL_isSo 234 = .ok (.iconst 2, 1) := by decide +kernel
theorem dL_isSo_235 : decode cL_isSo 235 = .ok (.iaload, 1) := by decide +kernel
theorem dL_isSo_236 : decode cL_isSo 236 = .ok (.if_icmp .ne 102, 3) := by decide +kernel
theorem dL_isSo_239 : decode cL_isSo 239 = .ok (.aload_n 0, 1) := by decide +kernel
theorem dL_isSo_240 : decode cL_isSo 240 = .ok (.bipush 6, 2) := by decide +kernel
theorem dL_isSo_242 : decode cL_isSo 242 = .ok (.invokestatic 147, 3) := by decide +kernel
theorem dL_isSo_245 : decode cL_isSo 245 = .ok (.aload_n 2, 1) := by decide +kernel
theorem dL_isSo_246 : decode cL_isSo 246 = .ok (.iconst 5, 1) := by decide +kernel
theorem dL_isSo_247 : decode cL_isSo 247 = .ok (.iaload, 1) := by decide +kernel
theorem dL_isSo_248 : decode cL_isSo 248 = .ok (.if_icmp .ne 90, 3) := by decide +kernel
theorem dL_isSo_251 : decode cL_isSo 251 = .ok (.aload_n 0, 1) := by decide +kernel
theorem dL_isSo_252 : decode cL_isSo 252 = .ok (.bipush 7, 2) := by decide +kernel
theorem dL_isSo_254 : decode cL_isSo 254 = .ok (.invokestatic 147, 3) := by decide +kernel
theorem dL_isSo_257 : decode cL_isSo 257 = .ok (.iload 8, 2) := by decide +kernel
theorem dL_isSo_259 : decode cL_isSo 259 = .ok (.if_icmp .ne 79, 3) := by decide +kernel
theorem dL_isSo_262 : decode cL_isSo 262 = .ok (.aload_n 0, 1) := by decide +kernel
theorem dL_isSo_263 : decode cL_isSo 263 = .ok (.bipush 8, 2) := by decide +kernel
theorem dL_isSo_265 : decode cL_isSo 265 = .ok (.invokestatic 147, 3) := by decide +kernel
theorem dL_isSo_268 : decode cL_isSo 268 = .ok (.iload 9, 2) := by decide +kernel
theorem dL_isSo_270 : decode cL_isSo 270 = .ok (.if_icmp .ne 68, 3) := by decide +kernel
theorem dL_isSo_273 : decode cL_isSo 273 = .ok (.aload_n 0, 1) := by decide +kernel
theorem dL_isSo_274 : decode cL_isSo 274 = .ok (.bipush 9, 2) := by decide +kernel
theorem dL_isSo_276 : decode cL_isSo 276 = .ok (.invokestatic 147, 3) := by decide +kernel
theorem dL_isSo_279 : decode cL_isSo 279 = .ok (.aload_n 2, 1) := by decide +kernel
theorem dL_isSo_280 : decode cL_isSo 280 = .ok (.bipush 7, 2) := by decide +kernel
theorem dL_isSo_282 : decode cL_isSo 282 = .ok (.iaload, 1) := by decide +kernel
theorem dL_isSo_283 : decode cL_isSo 283 = .ok (.if_icmp .ne 55, 3) := by decide +kernel
theorem dL_isSo_286 : decode cL_isSo 286 = .ok (.aload_n 0, 1) := by decide +kernel
theorem dL_isSo_287 : decode cL_isSo 287 = .ok (.bipush 10, 2) := by decide +kernel
theorem dL_isSo_289 : decode cL_isSo 289 = .ok (.invokestatic 147, 3) := by decide +kernel
theorem dL_isSo_292 : decode cL_isSo 292 = .ok (.aload_n 2, 1) := by decide +kernel
theorem dL_isSo_293 : decode cL_isSo 293 = .ok (.bipush 8, 2) := by decide +kernel
theorem dL_isSo_295 : decode cL_isSo 295 = .ok (.iaload, 1) := by decide +kernel
theorem dL_isSo_296 : decode cL_isSo 296 = .ok (.if_icmp .ne 42, 3) := by decide +kernel
theorem dL_isSo_299 : decode cL_isSo 299 = .ok (.aload_n 0, 1) := by decide +kernel
theorem dL_isSo_300 : decode cL_isSo 300 = .ok (.bipush 11, 2) := by decide +kernel
theorem dL_isSo_302 : decode cL_isSo 302 = .ok (.invokestatic 147, 3) := by decide +kernel
theorem dL_isSo_305 : decode cL_isSo 305 = .ok (.aload_n 2, 1) := by decide +kernel
theorem dL_isSo_306 : decode cL_isSo 306 = .ok (.bipush 6, 2) := by decide +kernel
theorem dL_isSo_308 : decode cL_isSo 308 = .ok (.iaload, 1) := by decide +kernel
theorem dL_isSo_309 : decode cL_isSo 309 = .ok (.if_icmp .ne 29, 3) := by decide +kernel
theorem dL_isSo_312 : decode cL_isSo 312 = .ok (.aload_n 0, 1) := by decide +kernel
theorem dL_isSo_313 : decode cL_isSo 313 = .ok (.iconst 0, 1) := by decide +kernel
theorem dL_isSo_314 : decode cL_isSo 314 = .ok (.invokestatic 149, 3) := by decide +kernel
theorem dL_isSo_317 : decode cL_isSo 317 = .ok (.aload_n 2, 1) := by decide +kernel
theorem dL_isSo_318 : decode cL_isSo 318 = .ok (.iconst 3, 1) := by decide +kernel
theorem dL_isSo_319 : decode cL_isSo 319 = .ok (.iaload, 1) := by decide +kernel
theorem dL_isSo_320 : decode cL_isSo 320 = .ok (.if_icmp .ne 18, 3) := by decide +kernel
theorem dL_isSo_323 : decode cL_isSo 323 = .ok (.aload_n 0, 1) := by decide +kernel
theorem dL_isSo_324 : decode cL_isSo 324 = .ok (.iconst 1, 1) := by decide +kernel
theorem dL_isSo_325 : decode cL_isSo 325 = .ok (.invokestatic 149, 3) := by decide +kernel
theorem dL_isSo_328 : decode cL_isSo 328 = .ok (.aload_n 2, 1) := by decide +kernel
theorem dL_isSo_329 : decode cL_isSo 329 = .ok (.iconst 4, 1) := by decide +kernel
theorem dL_isSo_330 : decode cL_isSo 330 = .ok (.iaload, 1) := by decide +kernel
theorem dL_isSo_331 : decode cL_isSo 331 = .ok (.if_icmp .ne 7, 3) := by decide +kernel
theorem dL_isSo_334 : decode cL_isSo 334 = .ok (.iconst 1, 1) := by decide +kernel
theorem dL_isSo_335 : decode cL_isSo 335 = .ok (.goto 4, 3) := by decide +kernel
theorem dL_isSo_338 : decode cL_isSo 338 = .ok (.iconst 0, 1) := by decide +kernel
theorem dL_isSo_339 : decode cL_isSo 339 = .ok (.istore 10, 2) := by decide +kernel
theorem dL_isSo_341 : decode cL_isSo 341 = .ok (.iload 10, 2) := by decide +kernel
theorem dL_isSo_343 : decode cL_isSo 343 = .ok (.ifCond .eq 90, 3) := by decide +kernel
theorem dL_isSo_346 : decode cL_isSo 346 = .ok (.aload_n 0, 1) := by decide +kernel
theorem dL_isSo_347 : decode cL_isSo 347 = .ok (.invokevirtual 151, 3) := by decide +kernel
theorem dL_isSo_350 : decode cL_isSo 350 = .ok (.aload_n 2, 1) := by decide +kernel
theorem dL_isSo_351 : decode cL_isSo 351 = .ok (.bipush 7, 2) := by decide +kernel
theorem dL_isSo_353 : decode cL_isSo 353 = .ok (.iaload, 1) := by decide +kernel
theorem dL_isSo_354 : decode cL_isSo 354 = .ok (.ifCond .ne 7, 3) := by decide +kernel
theorem dL_isSo_357 : decode cL_isSo 357 = .ok (.fconst 0, 1) := by decide +kernel
theorem dL_isSo_358 : decode cL_isSo 358 = .ok (.goto 14, 3) := by decide +kernel
theorem dL_isSo_361 : decode cL_isSo 361 = .ok (.aload_n 2, 1) := by decide +kernel
theorem dL_isSo_362 : decode cL_isSo 362 = .ok (.bipush 9, 2) := by decide +kernel
theorem dL_isSo_364 : decode cL_isSo 364 = .ok (.iaload, 1) := by decide +kernel
theorem dL_isSo_365 : decode cL_isSo 365 = .ok (.i2f, 1) := by decide +kernel
theorem dL_isSo_366 : decode cL_isSo 366 = .ok (.aload_n 2, 1) := by decide +kernel
theorem dL_isSo_367 : decode cL_isSo 367 = .ok (.bipush 7, 2) := by decide +kernel
theorem dL_isSo_369 : decode cL_isSo 369 = .ok (.iaload, 1) := by decide +kernel
theorem dL_isSo_370 : decode cL_isSo 370 = .ok (.i2f, 1) := by decide +kernel
theorem dL_isSo_371 : decode cL_isSo 371 = .ok (.fdiv, 1) := by decide +kernel
theorem dL_isSo_372 : decode cL_isSo 372 = .ok (.fcmp .l, 1) := by decide +kernel
theorem dL_isSo_373 : decode cL_isSo 373 = .ok (.ifCond .ne 60, 3) := by decide +kernel
theorem dL_isSo_376 : decode cL_isSo 376 = .ok (.aload_n 0, 1) := by decide +kernel
theorem dL_isSo_377 : decode cL_isSo 377 = .ok (.invokevirtual 155, 3) := by decide +kernel
theorem dL_isSo_380 : decode cL_isSo 380 = .ok (.aload_n 2, 1) := by decide +kernel
theorem dL_isSo_381 : decode cL_isSo 381 = .ok (.iconst 0, 1) := by decide +kernel
theorem dL_isSo_382 : decode cL_isSo 382 = .ok (.iaload, 1) := by decide +kernel
theorem dL_isSo_383 : decode cL_isSo 383 = .ok (.iconst 2, 1) := by decide +kernel
theorem dL_isSo_384 : decode cL_isSo 384 = .ok (.if_icmp .ge 7, 3) := by decide +kernel
theorem dL_isSo_387 : decode cL_isSo 387 = .ok (.dconst 0, 1) := by decide +kernel
theorem dL_isSo_388 : decode cL_isSo 388 = .ok (.goto 19, 3) := by decide +kernel
theorem dL_isSo_391 : decode cL_isSo 391 = .ok (.iload 6, 2) := by decide +kernel
theorem dL_isSo_393 : decode cL_isSo 393 = .ok (.i2d, 1) := by decide +kernel
theorem dL_isSo_394 : decode cL_isSo 394 = .ok (.aload_n 2, 1) := by decide +kernel
theorem dL_isSo_395 : decode cL_isSo 395 = .ok (.iconst 0, 1) := by decide +kernel
theorem dL_isSo_396 : decode cL_isSo 396 = .ok (.iaload, 1) := by decide +kernel
theorem dL_isSo_397 : decode cL_isSo 397 = .ok (.aload_n 2, 1) := by decide +kernel
theorem dL_isSo_398 : decode cL_isSo 398 = .ok (.iconst 0, 1) := by decide +kernel
theorem dL_isSo_399 : decode cL_isSo 399 = .ok (.iaload, 1) := by decide +kernel
theorem dL_isSo_400 : decode cL_isSo 400 = .ok (.iconst 1, 1) := by decide +kernel
theorem dL_isSo_401 : decode cL_isSo 401 = .ok (.isub, 1) := by decide +kernel
theorem dL_isSo_402 : decode cL_isSo 402 = .ok (.imul, 1) := by decide +kernel
theorem dL_isSo_403 : decode cL_isSo 403 = .ok (.iconst 2, 1) := by decide +kernel
theorem dL_isSo_404 : decode cL_isSo 404 = .ok (.idiv, 1) := by decide +kernel
theorem dL_isSo_405 : decode cL_isSo 405 = .ok (.i2d, 1) := by decide +kernel
theorem dL_isSo_406 : decode cL_isSo 406 = .ok (.ddiv, 1) := by decide +kernel
theorem dL_isSo_407 : decode cL_isSo 407 = .ok (.dcmp .l, 1) := by decide +kernel
theorem dL_isSo_408 : decode cL_isSo 408 = .ok (.ifCond .ne 25, 3) := by decide +kernel
theorem dL_isSo_411 : decode cL_isSo 411 = .ok (.aload_n 0, 1) := by decide +kernel
theorem dL_isSo_412 : decode cL_isSo 412 = .ok (.iload_n 1, 1) := by decide +kernel
theorem dL_isSo_413 : decode cL_isSo 413 = .ok (.iconst 3, 1) := by decide +kernel
theorem dL_isSo_414 : decode cL_isSo 414 = .ok (.invokestatic 94, 3) := by decide +kernel
theorem dL_isSo_417 : decode cL_isSo 417 = .ok (.aload_n 2, 1) := by decide +kernel
theorem dL_isSo_418 : decode cL_isSo 418 = .ok (.aload_n 3, 1) := by decide +kernel
theorem dL_isSo_419 : decode cL_isSo 419 = .ok (.aload 4, 2) := by decide +kernel
theorem dL_isSo_421 : decode cL_isSo 421 = .ok (.aload 5, 2) := by decide +kernel
theorem dL_isSo_423 : decode cL_isSo 423 = .ok (.invokestatic 159, 3) := by decide +kernel
theorem dL_isSo_426 : decode cL_isSo 426 = .ok (.ifCond .eq 7, 3) := by decide +kernel
theorem dL_isSo_429 : decode cL_isSo 429 = .ok (.iconst 1, 1) := by decide +kernel
theorem dL_isSo_430 : decode cL_isSo 430 = .ok (.goto 4, 3) := by decide +kernel
theorem dL_isSo_433 : decode cL_isSo 433 = .ok (.iconst 0, 1) := by decide +kernel
theorem dL_isSo_434 : decode cL_isSo 434 = .ok (.istore 10, 2) := by decide +kernel
theorem dL_isSo_436 : decode cL_isSo 436 = .ok (.iload 10, 2) := by decide +kernel
theorem dL_isSo_438 : decode cL_isSo 438 = .ok (.ifCond .eq 9, 3) := by decide +kernel
theorem dL_isSo_441 : decode cL_isSo 441 = .ok (.aload_n 2, 1) := by decide +kernel
theorem dL_isSo_442 : decode cL_isSo 442 = .ok (.iconst 0, 1) := by decide +kernel
theorem dL_isSo_443 : decode cL_isSo 443 = .ok (.iaload, 1) := by decide +kernel
theorem dL_isSo_444 : decode cL_isSo 444 = .ok (.ifCond .ne 22, 3) := by decide +kernel
theorem dL_isSo_447 : decode cL_isSo 447 = .ok (.iload 10, 2) := by decide +kernel
theorem dL_isSo_449 : decode cL_isSo 449 = .ok (.ifCond .eq 15, 3) := by decide +kernel
theorem dL_isSo_452 : decode cL_isSo 452 = .ok (.aload_n 0, 1) := by decide +kernel
theorem dL_isSo_453 : decode cL_isSo 453 = .ok (.invokevirtual 163, 3) := by decide +kernel
theorem dL_isSo_456 : decode cL_isSo 456 = .ok (.iconst (-1), 1) := by decide +kernel
theorem dL_isSo_457 : decode cL_isSo 457 = .ok (.if_icmp .ne 7, 3) := by decide +kernel
theorem dL_isSo_460 : decode cL_isSo 460 = .ok (.iconst 1, 1) := by decide +kernel
theorem dL_isSo_461 : decode cL_isSo 461 = .ok (.goto 4, 3) := by decide +kernel
theorem dL_isSo_464 : decode cL_isSo 464 = .ok (.iconst 0, 1) := by decide +kernel
theorem dL_isSo_465 : decode cL_isSo 465 = .ok (.ireturn, 1) := by decide +kernel
theorem dL_isSo_466 : decode cL_isSo 466 = .ok (.iload_n 1, 1) := by decide +kernel
theorem dL_isSo_467 : decode cL_isSo 467 = .ok (.iconst 2, 1) := by decide +kernel
theorem dL_isSo_468 : decode cL_isSo 468 = .ok (.ishr, 1) := by decide +kernel
theorem dL_isSo_469 : decode cL_isSo 469 = .ok (.aload_n 2, 1) := by decide +kernel
theorem dL_isSo_470 : decode cL_isSo 470 = .ok (.iconst 0, 1) := by decide +kernel
theorem dL_isSo_471 : decode cL_isSo 471 = .ok (.iaload, 1) := by decide +kernel
theorem dL_isSo_472 : decode cL_isSo 472 = .ok (.invokestatic 94, 3) := by decide +kernel
theorem dL_isSo_475 : decode cL_isSo 475 = .ok (.istore 11, 2) := by decide +kernel
theorem dL_isSo_477 : decode cL_isSo 477 = .ok (.iload_n 1, 1) := by decide +kernel
theorem dL_isSo_478 : decode cL_isSo 478 = .ok (.bipush 8, 2) := by decide +kernel
theorem dL_isSo_480 : decode cL_isSo 480 = .ok (.ishr, 1) := by decide +kernel
theorem dL_isSo_481 : decode cL_isSo 481 = .ok (.aload_n 2, 1) := by decide +kernel
theorem dL_isSo_482 : decode cL_isSo 482 = .ok (.iconst 0, 1) := by decide +kernel
theorem dL_isSo_483 : decode cL_isSo 483 = .ok (.iaload, 1) := by decide +kernel
theorem dL_isSo_484 : decode cL_isSo 484 = .ok (.invokestatic 94, 3) := by decide +kernel
theorem dL_isSo_487 : decode cL_isSo 487 = .ok (.istore 12, 2) := by decide +kernel
theorem dL_isSo_489 : decode cL_isSo 489 = .ok (.iload_n 1, 1) := by decide +kernel
theorem dL_isSo_490 : decode cL_isSo 490 = .ok (.bipush 14, 2) := by decide +kernel
theorem dL_isSo_492 : decode cL_isSo 492 = .ok (.ishr, 1) := by decide +kernel
theorem dL_isSo_493 : decode cL_isSo 493 = .ok (.iconst 3, 1) := by decide +kernel
theorem dL_isSo_494 : decode cL_isSo 494 = .ok (.invokestatic 94, 3) := by decide +kernel
theorem dL_isSo_497 : decode cL_isSo 497 = .ok (.istore 13, 2) := by decide +kernel
theorem dL_isSo_499 : decode cL_isSo 499 = .ok (.aload_n 0, 1) := by decide +kernel
theorem dL_isSo_500 : decode cL_isSo 500 = .ok (.iload 11, 2) := by decide +kernel
theorem dL_isSo_502 : decode cL_isSo 502 = .ok (.aload_n 2, 1) := by decide +kernel
theorem dL_isSo_503 : decode cL_isSo 503 = .ok (.aload_n 3, 1) := by decide +kernel
theorem dL_isSo_504 : decode cL_isSo 504 = .ok (.aload 4, 2) := by decide +kernel
theorem dL_isSo_506 : decode cL_isSo 506 = .ok (.aload 5, 2) := by decide +kernel
theorem dL_isSo_508 : decode cL_isSo 508 = .ok (.invokestatic 166, 3) := by decide +kernel
theorem dL_isSo_511 : decode cL_isSo 511 = .ok (.ifCond .eq 101, 3) := by decide +kernel
theorem dL_isSo_514 : decode cL_isSo 514 = .ok (.aload_n 0, 1) := by decide +kernel
theorem dL_isSo_515 : decode cL_isSo 515 = .ok (.iload 11, 2) := by decide +kernel
theorem dL_isSo_517 : decode cL_isSo 517 = .ok (.iload 12, 2) := by decide +kernel
theorem dL_isSo_519 : decode cL_isSo 519 = .ok (.invokestatic 169, 3) := by decide +kernel
theorem dL_isSo_522 : decode cL_isSo 522 = .ok (.iload 11, 2) := by decide +kernel
theorem dL_isSo_524 : decode cL_isSo 524 = .ok (.iload 12, 2) := by decide +kernel
theorem dL_isSo_526 : decode cL_isSo 526 = .ok (.aload_n 2, 1) := by decide +kernel
theorem dL_isSo_527 : decode cL_isSo 527 = .ok (.aload 5, 2) := by decide +kernel
theorem dL_isSo_529 : decode cL_isSo 529 = .ok (.invokestatic 140, 3) := by decide +kernel
theorem dL_isSo_532 : decode cL_isSo 532 = .ok (.if_icmp .ne 80, 3) := by decide +kernel
theorem dL_isSo_535 : decode cL_isSo 535 = .ok (.aload_n 0, 1) := by decide +kernel
theorem dL_isSo_536 : decode cL_isSo 536 = .ok (.iload 13, 2) := by decide +kernel
theorem dL_isSo_538 : decode cL_isSo 538 = .ok (.iload 11, 2) := by decide +kernel
theorem dL_isSo_540 : decode cL_isSo 540 = .ok (.invokestatic 171, 3) := by decide +kernel
theorem dL_isSo_543 : decode cL_isSo 543 = .ok (.iload 13, 2) := by decide +kernel
theorem dL_isSo_545 : decode cL_isSo 545 = .ok (.iload 11, 2) := by decide +kernel
theorem dL_isSo_547 : decode cL_isSo 547 = .ok (.aload_n 2, 1) := by decide +kernel
theorem dL_isSo_548 : decode cL_isSo 548 = .ok (.aload_n 3, 1) := by decide +kernel
theorem dL_isSo_549 : decode cL_isSo 549 = .ok (.aload 4, 2) := by decide +kernel
theorem dL_isSo_551 : decode cL_isSo 551 = .ok (.invokestatic 128, 3) := by decide +kernel
theorem dL_isSo_554 : decode cL_isSo 554 = .ok (.if_icmp .ne 58, 3) := by decide +kernel
theorem dL_isSo_557 : decode cL_isSo 557 = .ok (.aload_n 0, 1) := by decide +kernel
theorem dL_isSo_558 : decode cL_isSo 558 = .ok (.iload 11, 2) := by decide +kernel
theorem dL_isSo_560 : decode cL_isSo 560 = .ok (.iload 12, 2) := by decide +kernel
theorem dL_isSo_562 : decode cL_isSo 562 = .ok (.invokestatic 173, 3) := by decide +kernel
theorem dL_isSo_565 : decode cL_isSo 565 = .ok (.iload 11, 2) := by decide +kernel
theorem dL_isSo_567 : decode cL_isSo 567 = .ok (.iload 12, 2) := by decide +kernel
theorem dL_isSo_569 : decode cL_isSo 569 = .ok (.if_icmp .ne 8, 3) := by decide +kernel
theorem dL_isSo_572 : decode cL_isSo 572 = .ok (.bipush (-102), 2) := by decide +kernel
theorem dL_isSo_574 : decode cL_isSo 574 = .ok (.goto 31, 3) := by decide +kernel
theorem dL_isSo_577 : decode cL_isSo 577 = .ok (.aload_n 3, 1) := by decide +kernel
theorem dL_isSo_578 : decode cL_isSo 578 = .ok (.iload 11, 2) := by decide +kernel
theorem dL_isSo_580 : decode cL_isSo 580 = .ok (.iaload, 1) := by decide +kernel
theorem dL_isSo_581 : decode cL_isSo 581 = .ok (.iconst 0, 1) := by decide +kernel
theorem dL_isSo_582 : decode cL_isSo 582 = .ok (.aload_n 2, 1) := by decide +kernel
theorem dL_isSo_583 : decode cL_isSo 583 = .ok (.invokestatic 76, 3) := by decide +kernel
theorem dL_isSo_586 : decode cL_isSo 586 = .ok (.ifCond .eq 7, 3) := by decide +kernel
theorem dL_isSo_589 : decode cL_isSo 589 = .ok (.iconst (-1), 1) := by decide +kernel
theorem dL_isSo_590 : decode cL_isSo 590 = .ok (.goto 15, 3) := by decide +kernel
theorem dL_isSo_593 : decode cL_isSo 593 = .ok (.iload 11, 2) := by decide +kernel
theorem dL_isSo_595 : decode cL_isSo 595 = .ok (.iload 12, 2) := by decide +kernel
theorem dL_isSo_597 : decode cL_isSo 597 = .ok (.iconst 0, 1) := by decide +kernel
theorem dL_isSo_598 : decode cL_isSo 598 = .ok (.aload_n 2, 1) := by decide +kernel
theorem dL_isSo_599 : decode cL_isSo 599 = .ok (.aload_n 3, 1) := by decide +kernel
theorem dL_isSo_600 : decode cL_isSo 600 = .ok (.aload 5, 2) := by decide +kernel
theorem dL_isSo_602 : decode cL_isSo 602 = .ok (.invokestatic 136, 3) := by decide +kernel
theorem dL_isSo_605 : decode cL_isSo 605 = .ok (.if_icmp .ne 7, 3) := by decide +kernel
theorem dL_isSo_608 : decode cL_isSo 608 = .ok (.iconst 1, 1) := by decide +kernel
theorem dL_isSo_609 : decode cL_isSo 609 = .ok (.goto 4, 3) := by decide +kernel
theorem dL_isSo_612 : decode cL_isSo 612 = .ok (.iconst 0, 1) := by decide +kernel
theorem dL_isSo_613 : decode cL_isSo 613 = .ok (.ireturn, 1) := by decide +kernel
set_option maxRecDepth 20000 in
theorem ggL_told_L_count : GoodIn wsL_told wsL_count := goodIn_ca (goodIn_r _ [6, 7, 8, 9, 10, 11, 12, 13, 14, 15, 16, 17, 18, 19, 20, 21, 22, 23, 24, 25, 26, 27, 28, 29, 30, 31, 32, 33, 34, 35, 36, 37, 38, 39, 40, 41, 42, 43, 44, 45, 46, 47, 48, 49, 50, 51, 52, 53, 54, 55, 56, 57, 58, 59, 60, 61, 62, 63, 64, 65, 66, 67, 68, 69, 70, 71, 72, 73, 74, 75, 76, 77, 78, 79, 80, 81, 82, 83, 84, 85, 86, 87, 88, 89, 90, 91, 92, 93, 94, 95, 96, 97, 98, 99, 100, 101, 102, 103, 104, 105, 106, 107, 108, 109, 191, 192, 193, 194, 195, 196, 197, 198, 199, 200, 201, 202, 203, 204, 205, 206, 207, 208, 209, 210, 211, 212, 213, 214, 215, 216, 217] (by decide +kernel) (by decide +kernel)) (goodIn_sub (fun _ h => List.mem_cons_of_mem _ (List.mem_append_left _ (List.mem_append_right _ h))) (by decide +kernel))
set_option maxRecDepth 20000 in
theorem gL_told_L_count : GoodIn wsL_told (va_wsS RL 147 yL_count wsL_count) := goodIn_app (goodIn_of _ (by decide +kernel)) ggL_told_L_count
set_option maxRecDepth 20000 in
theorem ggL_told_L_climber : GoodIn wsL_told wsL_climber := goodIn_ca (goodIn_ca (goodIn_r _ [112, 113, 7, 114, 115, 116, 11, 117, 118, 119, 13, 14, 120, 121, 122, 123, 124, 125, 126, 19, 127, 128, 129, 130, 31, 131, 99, 132, 133, 134, 135, 104, 109, 136, 137, 138, 139, 140, 141, 142, 143, 144, 145, 146, 147, 148, 149, 150, 151, 80, 81, 82, 83, 56, 84, 85, 86, 87, 88, 89, 90, 91, 92, 93, 152, 76, 77, 78, 33, 57, 58, 153, 154, 155, 156, 157, 158, 159, 160, 161, 162, 49, 50, 51, 52, 53, 54, 55, 163, 164, 165, 166, 167, 168, 169, 170, 171, 172, 173, 174, 175, 176, 36, 177, 178, 191, 192, 193, 194, 195, 196, 197, 198, 199, 200, 201, 202, 203, 204, 205, 206, 207, 208, 209, 210, 211, 212, 218, 219, 220, 221] (by decide +kernel) (by decide +kernel)) (goodIn_sub (fun _ h => List.mem_cons_of_mem _ (List.mem_append_right _ h)) (by decide +kernel))) (goodIn_sub (fun _ h => List.mem_cons_of_mem _ (List.mem_append_left _ (List.mem_append_right _ h))) (by decide +kernel))
set_option maxRecDepth 20000 in
theorem gL_told_L_climber : GoodIn wsL_told (va_wsS RL 145 yL_climber wsL_climber) := goodIn_app (goodIn_of _ (by decide +kernel)) ggL_told_L_climber
set_option maxRecDepth 20000 in
theorem ggL_told_L_setting : GoodIn wsL_told wsL_setting := goodIn_ca (goodIn_r _ [181, 113, 182, 183, 184, 11, 185, 118, 119, 19, 186, 187, 188, 31, 189, 90, 190, 191, 192, 193, 194, 195, 196, 197, 198, 199, 200, 201, 202, 203, 204, 205, 206, 207, 208, 209, 210, 211, 212] (by decide +kernel) (by decide +kernel)) (goodIn_sub (fun _ h => List.mem_cons_of_mem _ (List.mem_append_right _ h)) (by decide +kernel))
set_option maxRecDepth 20000 in
theorem gL_told_L_setting : GoodIn wsL_told (va_wsS RL 149 yL_setting wsL_setting) := goodIn_app (goodIn_of _ (by decide +kernel)) ggL_told_L_setting
theorem dL_told_0 : decode cL_told 0 = .ok (.ldc2_w 175, 3) := by decide +kernel
theorem dL_told_3 : decode cL_told 3 = .ok (.lstore_n 1, 1) := by decide +kernel
theorem dL_told_4 : decode cL_told 4 = .ok (.iconst 0, 1) := by decide +kernel
theorem dL_told_5 : decode cL_told 5 = .ok (.istore_n 3, 1) := by decide +kernel
theorem dL_told_6 : decode cL_told 6 = .ok (.iload_n 3, 1) := by decide +kernel
theorem dL_told_7 : decode cL_told 7 = .ok (.bipush 12, 2) := by decide +kernel
theorem dL_told_9 : decode cL_told 9 = .ok (.if_icmp .ge 22, 3) := by decide +kernel
theorem dL_told_12 : decode cL_told 12 = .ok (.ldc2_w 177, 3) := by decide +kernel
theorem dL_told_15 : decode cL_told 15 = .ok (.lload_n 1, 1) := by decide +kernel
theorem dL_told_16 : decode cL_told 16 = .ok (.lmul, 1) := by decide +kernel
theorem dL_told_17 : decode cL_told 17 = .ok (.aload_n 0, 1) := by decide +kernel
theorem dL_told_18 : decode cL_told 18 = .ok (.iload_n 3, 1) := by decide +kernel
theorem dL_told_19 : decode cL_told 19 = .ok (.invokestatic 147, 3) := by decide +kernel
theorem dL_told_22 : decode cL_told 22 = .ok (.i2l, 1) := by decide +kernel
theorem dL_told_23 : decode cL_told 23 = .ok (.ladd, 1) := by decide +kernel
theorem dL_told_24 : decode cL_told 24 = .ok (.lstore_n 1, 1) := by decide +kernel
theorem dL_told_25 : decode cL_told 25 = .ok (.iinc 3 1, 3) := by decide +kernel
theorem dL_told_28 : decode cL_told 28 = .ok (.goto (-22), 3) := by decide +kernel
theorem dL_told_31 : decode cL_told 31 = .ok (.iconst 0, 1) := by decide +kernel
theorem dL_told_32 : decode cL_told 32 = .ok (.istore_n 3, 1) := by decide +kernel
theorem dL_told_33 : decode cL_told 33 = .ok (.iload_n 3, 1) := by decide +kernel
theorem dL_told_34 : decode cL_told 34 = .ok (.bipush 21, 2) := by decide +kernel
theorem dL_told_36 : decode cL_told 36 = .ok (.if_icmp .ge 29, 3) := by decide +kernel
theorem dL_told_39 : decode cL_told 39 = .ok (.ldc2_w 177, 3) := by decide +kernel
theorem dL_told_42 : decode cL_told 42 = .ok (.lload_n 1, 1) := by decide +kernel
theorem dL_told_43 : decode cL_told 43 = .ok (.lmul, 1) := by decide +kernel
theorem dL_told_44 : decode cL_told 44 = .ok (.aload_n 0, 1) := by decide +kernel
theorem dL_told_45 : decode cL_told 45 = .ok (.iload_n 3, 1) := by decide +kernel
theorem dL_told_46 : decode cL_told 46 = .ok (.bipush 7, 2) := by decide +kernel
theorem dL_told_48 : decode cL_told 48 = .ok (.idiv, 1) := by decide +kernel
theorem dL_told_49 : decode cL_told 49 = .ok (.iload_n 3, 1) := by decide +kernel
theorem dL_told_50 : decode cL_told 50 = .ok (.bipush 7, 2) := by decide +kernel
theorem dL_told_52 : decode cL_told 52 = .ok (.irem, 1) := by decide +kernel
theorem dL_told_53 : decode cL_told 53 = .ok (.invokestatic 145, 3) := by decide +kernel
theorem dL_told_56 : decode cL_told 56 = .ok (.i2l, 1) := by decide +kernel
theorem dL_told_57 : decode cL_told 57 = .ok (.ladd, 1) := by decide +kernel
theorem dL_told_58 : decode cL_told 58 = .ok (.lstore_n 1, 1) := by decide +kernel
theorem dL_told_59 : decode cL_told 59 = .ok (.iinc 3 1, 3) := by decide +kernel
theorem dL_told_62 : decode cL_told 62 = .ok (.goto (-29), 3) := by decide +kernel
theorem dL_told_65 : decode cL_told 65 = .ok (.ldc2_w 177, 3) := by decide +kernel
theorem dL_told_68 : decode cL_told 68 = .ok (.ldc2_w 177, 3) := by decide +kernel
theorem dL_told_71 : decode cL_told 71 = .ok (.lload_n 1, 1) := by decide +kernel
theorem dL_told_72 : decode cL_told 72 = .ok (.lmul, 1) := by decide +kernel
theorem dL_told_73 : decode cL_told 73 = .ok (.aload_n 0, 1) := by decide +kernel
theorem dL_told_74 : decode cL_told 74 = .ok (.iconst 0, 1) := by decide +kernel
theorem dL_told_75 : decode cL_told 75 = .ok (.invokestatic 149, 3) := by decide +kernel
theorem dL_told_78 : decode cL_told 78 = .ok (.i2l, 1) := by decide +kernel
theorem dL_told_79 : decode cL_told 79 = .ok (.ladd, 1) := by decide +kernel
theorem dL_told_80 : decode cL_told 80 = .ok (.lmul, 1) := by decide +kernel
theorem dL_told_81 : decode cL_told 81 = .ok (.aload_n 0, 1) := by decide +kernel
theorem dL_told_82 : decode cL_told 82 = .ok (.iconst 1, 1) := by decide +kernel
theorem dL_told_83 : decode cL_told 83 = .ok (.invokestatic 149, 3) := by decide +kernel
theorem dL_told_86 : decode cL_told 86 = .ok (.i2l, 1) := by decide +kernel
theorem dL_told_87 : decode cL_told 87 = .ok (.ladd, 1) := by decide +kernel
theorem dL_told_88 : decode cL_told 88 = .ok (.lreturn, 1) := by decide +kernel
