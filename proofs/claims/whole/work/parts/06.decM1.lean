theorem dX8_race_319 : decode cX8_race 319 = .ok (.iaload, 1) := by decide +kernel
theorem dX8_race_320 : decode cX8_race 320 = .ok (.aload_n 0, 1) := by decide +kernel
theorem dX8_race_321 : decode cX8_race 321 = .ok (.getfield 44, 3) := by decide +kernel
theorem dX8_race_324 : decode cX8_race 324 = .ok (.iload 4, 2) := by decide +kernel
theorem dX8_race_326 : decode cX8_race 326 = .ok (.iaload, 1) := by decide +kernel
theorem dX8_race_327 : decode cX8_race 327 = .ok (.iadd, 1) := by decide +kernel
theorem dX8_race_328 : decode cX8_race 328 = .ok (.invokevirtual 148, 3) := by decide +kernel
theorem dX8_race_331 : decode cX8_race 331 = .ok (.iastore, 1) := by decide +kernel
theorem dX8_race_332 : decode cX8_race 332 = .ok (.aload_n 0, 1) := by decide +kernel
theorem dX8_race_333 : decode cX8_race 333 = .ok (.getfield 7, 3) := by decide +kernel
theorem dX8_race_336 : decode cX8_race 336 = .ok (.iload 5, 2) := by decide +kernel
theorem dX8_race_338 : decode cX8_race 338 = .ok (.bipush 8, 2) := by decide +kernel
theorem dX8_race_340 : decode cX8_race 340 = .ok (.iadd, 1) := by decide +kernel
theorem dX8_race_341 : decode cX8_race 341 = .ok (.aload_n 0, 1) := by decide +kernel
theorem dX8_race_342 : decode cX8_race 342 = .ok (.getfield 119, 3) := by decide +kernel
theorem dX8_race_345 : decode cX8_race 345 = .ok (.iastore, 1) := by decide +kernel
theorem dX8_race_346 : decode cX8_race 346 = .ok (.iconst 0, 1) := by decide +kernel
theorem dX8_race_347 : decode cX8_race 347 = .ok (.istore 6, 2) := by decide +kernel
theorem dX8_race_349 : decode cX8_race 349 = .ok (.iload 6, 2) := by decide +kernel
theorem dX8_race_351 : decode cX8_race 351 = .ok (.bipush 12, 2) := by decide +kernel
theorem dX8_race_353 : decode cX8_race 353 = .ok (.if_icmp .ge 29, 3) := by decide +kernel
theorem dX8_race_356 : decode cX8_race 356 = .ok (.aload_n 0, 1) := by decide +kernel
theorem dX8_race_357 : decode cX8_race 357 = .ok (.getfield 7, 3) := by decide +kernel
theorem dX8_race_360 : decode cX8_race 360 = .ok (.iload 5, 2) := by decide +kernel
theorem dX8_race_362 : decode cX8_race 362 = .ok (.bipush 9, 2) := by decide +kernel
theorem dX8_race_364 : decode cX8_race 364 = .ok (.iadd, 1) := by decide +kernel
theorem dX8_race_365 : decode cX8_race 365 = .ok (.iload 6, 2) := by decide +kernel
theorem dX8_race_367 : decode cX8_race 367 = .ok (.iadd, 1) := by decide +kernel
theorem dX8_race_368 : decode cX8_race 368 = .ok (.aload_n 0, 1) := by decide +kernel
theorem dX8_race_369 : decode cX8_race 369 = .ok (.getfield 38, 3) := by decide +kernel
theorem dX8_race_372 : decode cX8_race 372 = .ok (.iload 6, 2) := by decide +kernel
theorem dX8_race_374 : decode cX8_race 374 = .ok (.iaload, 1) := by decide +kernel
theorem dX8_race_375 : decode cX8_race 375 = .ok (.iastore, 1) := by decide +kernel
theorem dX8_race_376 : decode cX8_race 376 = .ok (.iinc 6 1, 3) := by decide +kernel
theorem dX8_race_379 : decode cX8_race 379 = .ok (.goto (-30), 3) := by decide +kernel
theorem dX8_race_382 : decode cX8_race 382 = .ok (.aload_n 0, 1) := by decide +kernel
theorem dX8_race_383 : decode cX8_race 383 = .ok (.getfield 7, 3) := by decide +kernel
theorem dX8_race_386 : decode cX8_race 386 = .ok (.iload 5, 2) := by decide +kernel
theorem dX8_race_388 : decode cX8_race 388 = .ok (.iconst 0, 1) := by decide +kernel
theorem dX8_race_389 : decode cX8_race 389 = .ok (.iadd, 1) := by decide +kernel
theorem dX8_race_390 : decode cX8_race 390 = .ok (.aload_n 0, 1) := by decide +kernel
theorem dX8_race_391 : decode cX8_race 391 = .ok (.getfield 7, 3) := by decide +kernel
theorem dX8_race_394 : decode cX8_race 394 = .ok (.iload 5, 2) := by decide +kernel
theorem dX8_race_396 : decode cX8_race 396 = .ok (.iconst 0, 1) := by decide +kernel
theorem dX8_race_397 : decode cX8_race 397 = .ok (.iadd, 1) := by decide +kernel
theorem dX8_race_398 : decode cX8_race 398 = .ok (.iaload, 1) := by decide +kernel
theorem dX8_race_399 : decode cX8_race 399 = .ok (.aload_n 0, 1) := by decide +kernel
theorem dX8_race_400 : decode cX8_race 400 = .ok (.getfield 7, 3) := by decide +kernel
theorem dX8_race_403 : decode cX8_race 403 = .ok (.iload 5, 2) := by decide +kernel
theorem dX8_race_405 : decode cX8_race 405 = .ok (.iconst 3, 1) := by decide +kernel
theorem dX8_race_406 : decode cX8_race 406 = .ok (.iadd, 1) := by decide +kernel
theorem dX8_race_407 : decode cX8_race 407 = .ok (.iaload, 1) := by decide +kernel
theorem dX8_race_408 : decode cX8_race 408 = .ok (.iadd, 1) := by decide +kernel
theorem dX8_race_409 : decode cX8_race 409 = .ok (.iconst 0, 1) := by decide +kernel
theorem dX8_race_410 : decode cX8_race 410 = .ok (.sipush 200, 3) := by decide +kernel
theorem dX8_race_413 : decode cX8_race 413 = .ok (.invokestatic 125, 3) := by decide +kernel
theorem dX8_race_416 : decode cX8_race 416 = .ok (.iastore, 1) := by decide +kernel
theorem dX8_race_417 : decode cX8_race 417 = .ok (.aload_n 0, 1) := by decide +kernel
theorem dX8_race_418 : decode cX8_race 418 = .ok (.getfield 7, 3) := by decide +kernel
theorem dX8_race_421 : decode cX8_race 421 = .ok (.iload 5, 2) := by decide +kernel
theorem dX8_race_423 : decode cX8_race 423 = .ok (.bipush 7, 2) := by decide +kernel
theorem dX8_race_425 : decode cX8_race 425 = .ok (.iadd, 1) := by decide +kernel
theorem dX8_race_426 : decode cX8_race 426 = .ok (.dup2, 1) := by decide +kernel
theorem dX8_race_427 : decode cX8_race 427 = .ok (.iaload, 1) := by decide +kernel
theorem dX8_race_428 : decode cX8_race 428 = .ok (.iconst 1, 1) := by decide +kernel
theorem dX8_race_429 : decode cX8_race 429 = .ok (.iadd, 1) := by decide +kernel
theorem dX8_race_430 : decode cX8_race 430 = .ok (.iastore, 1) := by decide +kernel
theorem dX8_race_431 : decode cX8_race 431 = .ok (.iinc 4 1, 3) := by decide +kernel
theorem dX8_race_434 : decode cX8_race 434 = .ok (.goto (-220), 3) := by decide +kernel
theorem dX8_race_437 : decode cX8_race 437 = .ok (.aload_n 0, 1) := by decide +kernel
theorem dX8_race_438 : decode cX8_race 438 = .ok (.iload_n 2, 1) := by decide +kernel
theorem dX8_race_439 : decode cX8_race 439 = .ok (.putfield 151, 3) := by decide +kernel
theorem dX8_race_442 : decode cX8_race 442 = .ok (.aload_n 0, 1) := by decide +kernel
theorem dX8_race_443 : decode cX8_race 443 = .ok (.getfield 7, 3) := by decide +kernel
theorem dX8_race_446 : decode cX8_race 446 = .ok (.sipush 170, 3) := by decide +kernel
theorem dX8_race_449 : decode cX8_race 449 = .ok (.dup2, 1) := by decide +kernel
theorem dX8_race_450 : decode cX8_race 450 = .ok (.iaload, 1) := by decide +kernel
theorem dX8_race_451 : decode cX8_race 451 = .ok (.iconst 1, 1) := by decide +kernel
theorem dX8_race_452 : decode cX8_race 452 = .ok (.iadd, 1) := by decide +kernel
theorem dX8_race_453 : decode cX8_race 453 = .ok (.iastore, 1) := by decide +kernel
theorem dX8_race_454 : decode cX8_race 454 = .ok (.iload_n 3, 1) := by decide +kernel
theorem dX8_race_455 : decode cX8_race 455 = .ok (.ireturn, 1) := by decide +kernel
theorem dX8_shown_0 : decode cX8_shown 0 = .ok (.aload_n 0, 1) := by decide +kernel
theorem dX8_shown_1 : decode cX8_shown 1 = .ok (.iconst 0, 1) := by decide +kernel
theorem dX8_shown_2 : decode cX8_shown 2 = .ok (.putfield 57, 3) := by decide +kernel
theorem dX8_shown_5 : decode cX8_shown 5 = .ok (.aload_n 0, 1) := by decide +kernel
theorem dX8_shown_6 : decode cX8_shown 6 = .ok (.iload_n 1, 1) := by decide +kernel
theorem dX8_shown_7 : decode cX8_shown 7 = .ok (.invokevirtual 65, 3) := by decide +kernel
theorem dX8_shown_10 : decode cX8_shown 10 = .ok (.ifCond .eq 36, 3) := by decide +kernel
theorem dX8_shown_13 : decode cX8_shown 13 = .ok (.aload_n 0, 1) := by decide +kernel
theorem dX8_shown_14 : decode cX8_shown 14 = .ok (.getfield 151, 3) := by decide +kernel
theorem dX8_shown_17 : decode cX8_shown 17 = .ok (.iload_n 1, 1) := by decide +kernel
theorem dX8_shown_18 : decode cX8_shown 18 = .ok (.invokestatic 132, 3) := by decide +kernel
theorem dX8_shown_21 : decode cX8_shown 21 = .ok (.ifCond .eq 25, 3) := by decide +kernel
theorem dX8_shown_24 : decode cX8_shown 24 = .ok (.iload_n 2, 1) := by decide +kernel
theorem dX8_shown_25 : decode cX8_shown 25 = .ok (.iconst 0, 1) := by decide +kernel
theorem dX8_shown_26 : decode cX8_shown 26 = .ok (.iconst 2, 1) := by decide +kernel
theorem dX8_shown_27 : decode cX8_shown 27 = .ok (.invokestatic 61, 3) := by decide +kernel
theorem dX8_shown_30 : decode cX8_shown 30 = .ok (.ifCond .eq 16, 3) := by decide +kernel
theorem dX8_shown_33 : decode cX8_shown 33 = .ok (.aload_n 0, 1) := by decide +kernel
theorem dX8_shown_34 : decode cX8_shown 34 = .ok (.getfield 29, 3) := by decide +kernel
theorem dX8_shown_37 : decode cX8_shown 37 = .ok (.iconst 3, 1) := by decide +kernel
theorem dX8_shown_38 : decode cX8_shown 38 = .ok (.iload_n 1, 1) := by decide +kernel
theorem dX8_shown_39 : decode cX8_shown 39 = .ok (.imul, 1) := by decide +kernel
theorem dX8_shown_40 : decode cX8_shown 40 = .ok (.iload_n 2, 1) := by decide +kernel
theorem dX8_shown_41 : decode cX8_shown 41 = .ok (.iadd, 1) := by decide +kernel
theorem dX8_shown_42 : decode cX8_shown 42 = .ok (.iaload, 1) := by decide +kernel
theorem dX8_shown_43 : decode cX8_shown 43 = .ok (.goto 5, 3) := by decide +kernel
theorem dX8_shown_46 : decode cX8_shown 46 = .ok (.ldc 69, 2) := by decide +kernel
theorem dX8_shown_48 : decode cX8_shown 48 = .ok (.ireturn, 1) := by decide +kernel
theorem dX8_weight_0 : decode cX8_weight 0 = .ok (.aload_n 0, 1) := by decide +kernel
theorem dX8_weight_1 : decode cX8_weight 1 = .ok (.iconst 0, 1) := by decide +kernel
theorem dX8_weight_2 : decode cX8_weight 2 = .ok (.putfield 57, 3) := by decide +kernel
theorem dX8_weight_5 : decode cX8_weight 5 = .ok (.aload_n 0, 1) := by decide +kernel
theorem dX8_weight_6 : decode cX8_weight 6 = .ok (.iload_n 2, 1) := by decide +kernel
theorem dX8_weight_7 : decode cX8_weight 7 = .ok (.invokevirtual 136, 3) := by decide +kernel
theorem dX8_weight_10 : decode cX8_weight 10 = .ok (.ifCond .eq 19, 3) := by decide +kernel
theorem dX8_weight_13 : decode cX8_weight 13 = .ok (.aload_n 0, 1) := by decide +kernel
theorem dX8_weight_14 : decode cX8_weight 14 = .ok (.iload_n 1, 1) := by decide +kernel
theorem dX8_weight_15 : decode cX8_weight 15 = .ok (.invokevirtual 65, 3) := by decide +kernel
theorem dX8_weight_18 : decode cX8_weight 18 = .ok (.ifCond .eq 11, 3) := by decide +kernel
theorem dX8_weight_21 : decode cX8_weight 21 = .ok (.iload_n 2, 1) := by decide +kernel
theorem dX8_weight_22 : decode cX8_weight 22 = .ok (.iload_n 1, 1) := by decide +kernel
theorem dX8_weight_23 : decode cX8_weight 23 = .ok (.invokestatic 132, 3) := by decide +kernel
theorem dX8_weight_26 : decode cX8_weight 26 = .ok (.ifCond .ne 5, 3) := by decide +kernel
theorem dX8_weight_29 : decode cX8_weight 29 = .ok (.iconst (-1), 1) := by decide +kernel
theorem dX8_weight_30 : decode cX8_weight 30 = .ok (.ireturn, 1) := by decide +kernel
theorem dX8_weight_31 : decode cX8_weight 31 = .ok (.aload_n 0, 1) := by decide +kernel
theorem dX8_weight_32 : decode cX8_weight 32 = .ok (.iload_n 2, 1) := by decide +kernel
theorem dX8_weight_33 : decode cX8_weight 33 = .ok (.invokevirtual 139, 3) := by decide +kernel
theorem dX8_weight_36 : decode cX8_weight 36 = .ok (.aload_n 0, 1) := by decide +kernel
theorem dX8_weight_37 : decode cX8_weight 37 = .ok (.getfield 44, 3) := by decide +kernel
theorem dX8_weight_40 : decode cX8_weight 40 = .ok (.iload_n 1, 1) := by decide +kernel
theorem dX8_weight_41 : decode cX8_weight 41 = .ok (.iaload, 1) := by decide +kernel
theorem dX8_weight_42 : decode cX8_weight 42 = .ok (.ireturn, 1) := by decide +kernel
theorem dX8_races_0 : decode cX8_races 0 = .ok (.aload_n 0, 1) := by decide +kernel
theorem dX8_races_1 : decode cX8_races 1 = .ok (.getfield 20, 3) := by decide +kernel
theorem dX8_races_4 : decode cX8_races 4 = .ok (.iconst 0, 1) := by decide +kernel
theorem dX8_races_5 : decode cX8_races 5 = .ok (.iaload, 1) := by decide +kernel
theorem dX8_races_6 : decode cX8_races 6 = .ok (.istore_n 3, 1) := by decide +kernel
theorem dX8_races_7 : decode cX8_races 7 = .ok (.iconst 0, 1) := by decide +kernel
theorem dX8_races_8 : decode cX8_races 8 = .ok (.istore 4, 2) := by decide +kernel
theorem dX8_races_10 : decode cX8_races 10 = .ok (.iload 4, 2) := by decide +kernel
theorem dX8_races_12 : decode cX8_races 12 = .ok (.aload_n 0, 1) := by decide +kernel
theorem dX8_races_13 : decode cX8_races 13 = .ok (.getfield 7, 3) := by decide +kernel
theorem dX8_races_16 : decode cX8_races 16 = .ok (.sipush 168, 3) := by decide +kernel
theorem dX8_races_19 : decode cX8_races 19 = .ok (.iaload, 1) := by decide +kernel
theorem dX8_races_20 : decode cX8_races 20 = .ok (.if_icmp .ge 169, 3) := by decide +kernel
theorem dX8_races_23 : decode cX8_races 23 = .ok (.aload_n 0, 1) := by decide +kernel
theorem dX8_races_24 : decode cX8_races 24 = .ok (.getfield 47, 3) := by decide +kernel
theorem dX8_races_27 : decode cX8_races 27 = .ok (.iload 4, 2) := by decide +kernel
theorem dX8_races_29 : decode cX8_races 29 = .ok (.lconst 0, 1) := by decide +kernel
theorem dX8_races_30 : decode cX8_races 30 = .ok (.lastore, 1) := by decide +kernel
theorem dX8_races_31 : decode cX8_races 31 = .ok (.iload_n 3, 1) := by decide +kernel
theorem dX8_races_32 : decode cX8_races 32 = .ok (.ineg, 1) := by decide +kernel
theorem dX8_races_33 : decode cX8_races 33 = .ok (.istore 5, 2) := by decide +kernel
theorem dX8_races_35 : decode cX8_races 35 = .ok (.iload 5, 2) := by decide +kernel
theorem dX8_races_37 : decode cX8_races 37 = .ok (.iload_n 3, 1) := by decide +kernel
theorem dX8_races_38 : decode cX8_races 38 = .ok (.if_icmp .gt 145, 3) := by decide +kernel
theorem dX8_races_41 : decode cX8_races 41 = .ok (.iload_n 2, 1) := by decide +kernel
theorem dX8_races_42 : decode cX8_races 42 = .ok (.iload 4, 2) := by decide +kernel
theorem dX8_races_44 : decode cX8_races 44 = .ok (.invokestatic 132, 3) := by decide +kernel
theorem dX8_races_47 : decode cX8_races 47 = .ok (.ifCond .eq 136, 3) := by decide +kernel
theorem dX8_races_50 : decode cX8_races 50 = .ok (.aload_n 0, 1) := by decide +kernel
theorem dX8_races_51 : decode cX8_races 51 = .ok (.iload 4, 2) := by decide +kernel
theorem dX8_races_53 : decode cX8_races 53 = .ok (.iload_n 1, 1) := by decide +kernel
theorem dX8_races_54 : decode cX8_races 54 = .ok (.invokevirtual 145, 3) := by decide +kernel
theorem dX8_races_57 : decode cX8_races 57 = .ok (.aload_n 0, 1) := by decide +kernel
theorem dX8_races_58 : decode cX8_races 58 = .ok (.getfield 44, 3) := by decide +kernel
theorem dX8_races_61 : decode cX8_races 61 = .ok (.iload 4, 2) := by decide +kernel
theorem dX8_races_63 : decode cX8_races 63 = .ok (.iaload, 1) := by decide +kernel
theorem dX8_races_64 : decode cX8_races 64 = .ok (.isub, 1) := by decide +kernel
theorem dX8_races_65 : decode cX8_races 65 = .ok (.iload 5, 2) := by decide +kernel
theorem dX8_races_67 : decode cX8_races 67 = .ok (.iadd, 1) := by decide +kernel
theorem dX8_races_68 : decode cX8_races 68 = .ok (.istore 6, 2) := by decide +kernel
theorem dX8_races_70 : decode cX8_races 70 = .ok (.lconst 1, 1) := by decide +kernel
theorem dX8_races_71 : decode cX8_races 71 = .ok (.lstore 7, 2) := by decide +kernel
theorem dX8_races_73 : decode cX8_races 73 = .ok (.iconst 0, 1) := by decide +kernel
theorem dX8_races_74 : decode cX8_races 74 = .ok (.istore 9, 2) := by decide +kernel
theorem dX8_races_76 : decode cX8_races 76 = .ok (.iload 9, 2) := by decide +kernel
theorem dX8_races_78 : decode cX8_races 78 = .ok (.aload_n 0, 1) := by decide +kernel
theorem dX8_races_79 : decode cX8_races 79 = .ok (.getfield 7, 3) := by decide +kernel
theorem dX8_races_82 : decode cX8_races 82 = .ok (.sipush 168, 3) := by decide +kernel
theorem dX8_races_85 : decode cX8_races 85 = .ok (.iaload, 1) := by decide +kernel
theorem dX8_races_86 : decode cX8_races 86 = .ok (.if_icmp .ge 79, 3) := by decide +kernel
theorem dX8_races_89 : decode cX8_races 89 = .ok (.iload 9, 2) := by decide +kernel
theorem dX8_races_91 : decode cX8_races 91 = .ok (.iload 4, 2) := by decide +kernel
theorem dX8_races_93 : decode cX8_races 93 = .ok (.if_icmp .eq 66, 3) := by decide +kernel
theorem dX8_races_96 : decode cX8_races 96 = .ok (.iload_n 2, 1) := by decide +kernel
theorem dX8_races_97 : decode cX8_races 97 = .ok (.iload 9, 2) := by decide +kernel
theorem dX8_races_99 : decode cX8_races 99 = .ok (.invokestatic 132, 3) := by decide +kernel
theorem dX8_races_102 : decode cX8_races 102 = .ok (.ifCond .eq 57, 3) := by decide +kernel
theorem dX8_races_105 : decode cX8_races 105 = .ok (.iload 6, 2) := by decide +kernel
theorem dX8_races_107 : decode cX8_races 107 = .ok (.iload 9, 2) := by decide +kernel
theorem dX8_races_109 : decode cX8_races 109 = .ok (.iload 4, 2) := by decide +kernel
theorem dX8_races_111 : decode cX8_races 111 = .ok (.if_icmp .ge 7, 3) := by decide +kernel
theorem dX8_races_114 : decode cX8_races 114 = .ok (.iconst 1, 1) := by decide +kernel
theorem dX8_races_115 : decode cX8_races 115 = .ok (.goto 4, 3) := by decide +kernel
theorem dX8_races_118 : decode cX8_races 118 = .ok (.iconst 0, 1) := by decide +kernel
theorem dX8_races_119 : decode cX8_races 119 = .ok (.isub, 1) := by decide +kernel
theorem dX8_races_120 : decode cX8_races 120 = .ok (.aload_n 0, 1) := by decide +kernel
theorem dX8_races_121 : decode cX8_races 121 = .ok (.iload 9, 2) := by decide +kernel
theorem dX8_races_123 : decode cX8_races 123 = .ok (.iload_n 1, 1) := by decide +kernel
theorem dX8_races_124 : decode cX8_races 124 = .ok (.invokevirtual 145, 3) := by decide +kernel
theorem dX8_races_127 : decode cX8_races 127 = .ok (.isub, 1) := by decide +kernel
theorem dX8_races_128 : decode cX8_races 128 = .ok (.aload_n 0, 1) := by decide +kernel
theorem dX8_races_129 : decode cX8_races 129 = .ok (.getfield 44, 3) := by decide +kernel
theorem dX8_races_132 : decode cX8_races 132 = .ok (.iload 9, 2) := by decide +kernel
theorem dX8_races_134 : decode cX8_races 134 = .ok (.iaload, 1) := by decide +kernel
theorem dX8_races_135 : decode cX8_races 135 = .ok (.iadd, 1) := by decide +kernel
theorem dX8_races_136 : decode cX8_races 136 = .ok (.istore 10, 2) := by decide +kernel
theorem dX8_races_138 : decode cX8_races 138 = .ok (.lload 7, 2) := by decide +kernel
theorem dX8_races_140 : decode cX8_races 140 = .ok (.iload 10, 2) := by decide +kernel
theorem dX8_races_142 : decode cX8_races 142 = .ok (.iload_n 3, 1) := by decide +kernel
theorem dX8_races_143 : decode cX8_races 143 = .ok (.iadd, 1) := by decide +kernel
theorem dX8_races_144 : decode cX8_races 144 = .ok (.iconst 1, 1) := by decide +kernel
theorem dX8_races_145 : decode cX8_races 145 = .ok (.iadd, 1) := by decide +kernel
theorem dX8_races_146 : decode cX8_races 146 = .ok (.iconst 0, 1) := by decide +kernel
theorem dX8_races_147 : decode cX8_races 147 = .ok (.iconst 2, 1) := by decide +kernel
theorem dX8_races_148 : decode cX8_races 148 = .ok (.iload_n 3, 1) := by decide +kernel
theorem dX8_races_149 : decode cX8_races 149 = .ok (.imul, 1) := by decide +kernel
theorem dX8_races_150 : decode cX8_races 150 = .ok (.iconst 1, 1) := by decide +kernel
theorem dX8_races_151 : decode cX8_races 151 = .ok (.iadd, 1) := by decide +kernel
theorem dX8_races_152 : decode cX8_races 152 = .ok (.invokestatic 125, 3) := by decide +kernel
theorem dX8_races_155 : decode cX8_races 155 = .ok (.i2l, 1) := by decide +kernel
theorem dX8_races_156 : decode cX8_races 156 = .ok (.lmul, 1) := by decide +kernel
theorem dX8_races_157 : decode cX8_races 157 = .ok (.lstore 7, 2) := by decide +kernel
theorem dX8_races_159 : decode cX8_races 159 = .ok (.iinc 9 1, 3) := by decide +kernel
theorem dX8_races_162 : decode cX8_races 162 = .ok (.goto (-86), 3) := by decide +kernel
theorem dX8_races_165 : decode cX8_races 165 = .ok (.aload_n 0, 1) := by decide +kernel
theorem dX8_races_166 : decode cX8_races 166 = .ok (.getfield 47, 3) := by decide +kernel
theorem dX8_races_169 : decode cX8_races 169 = .ok (.iload 4, 2) := by decide +kernel
theorem dX8_races_171 : decode cX8_races 171 = .ok (.dup2, 1) := by decide +kernel
theorem dX8_races_172 : decode cX8_races 172 = .ok (.laload, 1) := by decide +kernel
theorem dX8_races_173 : decode cX8_races 173 = .ok (.lload 7, 2) := by decide +kernel
theorem dX8_races_175 : decode cX8_races 175 = .ok (.ladd, 1) := by decide +kernel
theorem dX8_races_176 : decode cX8_races 176 = .ok (.lastore, 1) := by decide +kernel
theorem dX8_races_177 : decode cX8_races 177 = .ok (.iinc 5 1, 3) := by decide +kernel
theorem dX8_races_180 : decode cX8_races 180 = .ok (.goto (-145), 3) := by decide +kernel
theorem dX8_races_183 : decode cX8_races 183 = .ok (.iinc 4 1, 3) := by decide +kernel
theorem dX8_races_186 : decode cX8_races 186 = .ok (.goto (-176), 3) := by decide +kernel
theorem dX8_races_189 : decode cX8_races 189 = .ok (.return_, 1) := by decide +kernel
theorem dX8_allRows_0 : decode cX8_allRows 0 = .ok (.lconst 1, 1) := by decide +kernel
theorem dX8_allRows_1 : decode cX8_allRows 1 = .ok (.lstore_n 2, 1) := by decide +kernel
theorem dX8_allRows_2 : decode cX8_allRows 2 = .ok (.iload_n 1, 1) := by decide +kernel
theorem dX8_allRows_3 : decode cX8_allRows 3 = .ok (.invokestatic 129, 3) := by decide +kernel
theorem dX8_allRows_6 : decode cX8_allRows 6 = .ok (.istore 4, 2) := by decide +kernel
theorem dX8_allRows_8 : decode cX8_allRows 8 = .ok (.iload 4, 2) := by decide +kernel
theorem dX8_allRows_10 : decode cX8_allRows 10 = .ok (.ifCond .le 23, 3) := by decide +kernel
theorem dX8_allRows_13 : decode cX8_allRows 13 = .ok (.lload_n 2, 1) := by decide +kernel
theorem dX8_allRows_14 : decode cX8_allRows 14 = .ok (.iconst 2, 1) := by decide +kernel
theorem dX8_allRows_15 : decode cX8_allRows 15 = .ok (.aload_n 0, 1) := by decide +kernel
theorem dX8_allRows_16 : decode cX8_allRows 16 = .ok (.getfield 20, 3) := by decide +kernel
theorem dX8_allRows_19 : decode cX8_allRows 19 = .ok (.iconst 0, 1) := by decide +kernel
theorem dX8_allRows_20 : decode cX8_allRows 20 = .ok (.iaload, 1) := by decide +kernel
theorem dX8_allRows_21 : decode cX8_allRows 21 = .ok (.imul, 1) := by decide +kernel
theorem dX8_allRows_22 : decode cX8_allRows 22 = .ok (.iconst 1, 1) := by decide +kernel
theorem dX8_allRows_23 : decode cX8_allRows 23 = .ok (.iadd, 1) := by decide +kernel
theorem dX8_allRows_24 : decode cX8_allRows 24 = .ok (.i2l, 1) := by decide +kernel
theorem dX8_allRows_25 : decode cX8_allRows 25 = .ok (.lmul, 1) := by decide +kernel
theorem dX8_allRows_26 : decode cX8_allRows 26 = .ok (.lstore_n 2, 1) := by decide +kernel
theorem dX8_allRows_27 : decode cX8_allRows 27 = .ok (.iinc 4 (-1), 3) := by decide +kernel
theorem dX8_allRows_30 : decode cX8_allRows 30 = .ok (.goto (-22), 3) := by decide +kernel
theorem dX8_allRows_33 : decode cX8_allRows 33 = .ok (.lload_n 2, 1) := by decide +kernel
theorem dX8_allRows_34 : decode cX8_allRows 34 = .ok (.lreturn, 1) := by decide +kernel
theorem dX8_closeness_0 : decode cX8_closeness 0 = .ok (.lconst 0, 1) := by decide +kernel
theorem dX8_closeness_1 : decode cX8_closeness 1 = .ok (.lstore_n 2, 1) := by decide +kernel
theorem dX8_closeness_2 : decode cX8_closeness 2 = .ok (.aload_n 0, 1) := by decide +kernel
theorem dX8_closeness_3 : decode cX8_closeness 3 = .ok (.iload_n 1, 1) := by decide +kernel
theorem dX8_closeness_4 : decode cX8_closeness 4 = .ok (.invokevirtual 154, 3) := by decide +kernel
theorem dX8_closeness_7 : decode cX8_closeness 7 = .ok (.lstore 4, 2) := by decide +kernel
theorem dX8_closeness_9 : decode cX8_closeness 9 = .ok (.iconst 0, 1) := by decide +kernel
theorem dX8_closeness_10 : decode cX8_closeness 10 = .ok (.istore 6, 2) := by decide +kernel
theorem dX8_closeness_12 : decode cX8_closeness 12 = .ok (.iload 6, 2) := by decide +kernel
theorem dX8_closeness_14 : decode cX8_closeness 14 = .ok (.aload_n 0, 1) := by decide +kernel
theorem dX8_closeness_15 : decode cX8_closeness 15 = .ok (.getfield 7, 3) := by decide +kernel
theorem dX8_closeness_18 : decode cX8_closeness 18 = .ok (.sipush 168, 3) := by decide +kernel
theorem dX8_closeness_21 : decode cX8_closeness 21 = .ok (.iaload, 1) := by decide +kernel
theorem dX8_closeness_22 : decode cX8_closeness 22 = .ok (.if_icmp .ge 58, 3) := by decide +kernel
theorem dX8_closeness_25 : decode cX8_closeness 25 = .ok (.iload_n 1, 1) := by decide +kernel
theorem dX8_closeness_26 : decode cX8_closeness 26 = .ok (.iload 6, 2) := by decide +kernel
theorem dX8_closeness_28 : decode cX8_closeness 28 = .ok (.invokestatic 132, 3) := by decide +kernel
theorem dX8_closeness_31 : decode cX8_closeness 31 = .ok (.ifCond .eq 22, 3) := by decide +kernel
theorem dX8_closeness_34 : decode cX8_closeness 34 = .ok (.iload_n 1, 1) := by decide +kernel
theorem dX8_closeness_35 : decode cX8_closeness 35 = .ok (.invokestatic 129, 3) := by decide +kernel
theorem dX8_closeness_38 : decode cX8_closeness 38 = .ok (.i2l, 1) := by decide +kernel
theorem dX8_closeness_39 : decode cX8_closeness 39 = .ok (.aload_n 0, 1) := by decide +kernel
theorem dX8_closeness_40 : decode cX8_closeness 40 = .ok (.getfield 47, 3) := by decide +kernel
theorem dX8_closeness_43 : decode cX8_closeness 43 = .ok (.iload 6, 2) := by decide +kernel
theorem dX8_closeness_45 : decode cX8_closeness 45 = .ok (.laload, 1) := by decide +kernel
theorem dX8_closeness_46 : decode cX8_closeness 46 = .ok (.lmul, 1) := by decide +kernel
theorem dX8_closeness_47 : decode cX8_closeness 47 = .ok (.lload 4, 2) := by decide +kernel
theorem dX8_closeness_49 : decode cX8_closeness 49 = .ok (.lsub, 1) := by decide +kernel
theorem dX8_closeness_50 : decode cX8_closeness 50 = .ok (.goto 4, 3) := by decide +kernel
theorem dX8_closeness_53 : decode cX8_closeness 53 = .ok (.lconst 0, 1) := by decide +kernel
theorem dX8_closeness_54 : decode cX8_closeness 54 = .ok (.lstore 7, 2) := by decide +kernel
theorem dX8_closeness_56 : decode cX8_closeness 56 = .ok (.lload_n 2, 1) := by decide +kernel
theorem dX8_closeness_57 : decode cX8_closeness 57 = .ok (.lload 7, 2) := by decide +kernel
theorem dX8_closeness_59 : decode cX8_closeness 59 = .ok (.lconst 0, 1) := by decide +kernel
theorem dX8_closeness_60 : decode cX8_closeness 60 = .ok (.lcmp, 1) := by decide +kernel
theorem dX8_closeness_61 : decode cX8_closeness 61 = .ok (.ifCond .ge 9, 3) := by decide +kernel
theorem dX8_closeness_64 : decode cX8_closeness 64 = .ok (.lload 7, 2) := by decide +kernel
theorem dX8_closeness_66 : decode cX8_closeness 66 = .ok (.lneg, 1) := by decide +kernel
theorem dX8_closeness_67 : decode cX8_closeness 67 = .ok (.goto 5, 3) := by decide +kernel
theorem dX8_closeness_70 : decode cX8_closeness 70 = .ok (.lload 7, 2) := by decide +kernel
theorem dX8_closeness_72 : decode cX8_closeness 72 = .ok (.ladd, 1) := by decide +kernel
theorem dX8_closeness_73 : decode cX8_closeness 73 = .ok (.lstore_n 2, 1) := by decide +kernel
theorem dX8_closeness_74 : decode cX8_closeness 74 = .ok (.iinc 6 1, 3) := by decide +kernel
theorem dX8_closeness_77 : decode cX8_closeness 77 = .ok (.goto (-65), 3) := by decide +kernel
theorem dX8_closeness_80 : decode cX8_closeness 80 = .ok (.lload_n 2, 1) := by decide +kernel
theorem dX8_closeness_81 : decode cX8_closeness 81 = .ok (.lreturn, 1) := by decide +kernel
theorem dX8_odds_0 : decode cX8_odds 0 = .ok (.aload_n 0, 1) := by decide +kernel
theorem dX8_odds_1 : decode cX8_odds 1 = .ok (.iconst 0, 1) := by decide +kernel
theorem dX8_odds_2 : decode cX8_odds 2 = .ok (.putfield 57, 3) := by decide +kernel
theorem dX8_odds_5 : decode cX8_odds 5 = .ok (.iload_n 1, 1) := by decide +kernel
theorem dX8_odds_6 : decode cX8_odds 6 = .ok (.iconst 0, 1) := by decide +kernel
theorem dX8_odds_7 : decode cX8_odds 7 = .ok (.iconst 2, 1) := by decide +kernel
theorem dX8_odds_8 : decode cX8_odds 8 = .ok (.invokestatic 61, 3) := by decide +kernel
theorem dX8_odds_11 : decode cX8_odds 11 = .ok (.ifCond .eq 32, 3) := by decide +kernel
theorem dX8_odds_14 : decode cX8_odds 14 = .ok (.aload_n 0, 1) := by decide +kernel
theorem dX8_odds_15 : decode cX8_odds 15 = .ok (.iload_n 2, 1) := by decide +kernel
theorem dX8_odds_16 : decode cX8_odds 16 = .ok (.invokevirtual 136, 3) := by decide +kernel
theorem dX8_odds_19 : decode cX8_odds 19 = .ok (.ifCond .eq 24, 3) := by decide +kernel
theorem dX8_odds_22 : decode cX8_odds 22 = .ok (.iload_n 3, 1) := by decide +kernel
theorem dX8_odds_23 : decode cX8_odds 23 = .ok (.iconst (-1), 1) := by decide +kernel
theorem dX8_odds_24 : decode cX8_odds 24 = .ok (.if_icmp .eq 23, 3) := by decide +kernel
theorem dX8_odds_27 : decode cX8_odds 27 = .ok (.aload_n 0, 1) := by decide +kernel
theorem dX8_odds_28 : decode cX8_odds 28 = .ok (.iload_n 3, 1) := by decide +kernel
theorem dX8_odds_29 : decode cX8_odds 29 = .ok (.invokevirtual 65, 3) := by decide +kernel
theorem dX8_odds_32 : decode cX8_odds 32 = .ok (.ifCond .eq 11, 3) := by decide +kernel
theorem dX8_odds_35 : decode cX8_odds 35 = .ok (.iload_n 2, 1) := by decide +kernel
theorem dX8_odds_36 : decode cX8_odds 36 = .ok (.iload_n 3, 1) := by decide +kernel
theorem dX8_odds_37 : decode cX8_odds 37 = .ok (.invokestatic 132, 3) := by decide +kernel
theorem dX8_odds_40 : decode cX8_odds 40 = .ok (.ifCond .ne 7, 3) := by decide +kernel
theorem dX8_odds_43 : decode cX8_odds 43 = .ok (.ldc2_w 158, 3) := by decide +kernel
theorem dX8_odds_46 : decode cX8_odds 46 = .ok (.lreturn, 1) := by decide +kernel
theorem dX8_odds_47 : decode cX8_odds 47 = .ok (.aload_n 0, 1) := by decide +kernel
theorem dX8_odds_48 : decode cX8_odds 48 = .ok (.iload_n 2, 1) := by decide +kernel
theorem dX8_odds_49 : decode cX8_odds 49 = .ok (.invokevirtual 139, 3) := by decide +kernel
theorem dX8_odds_52 : decode cX8_odds 52 = .ok (.aload_n 0, 1) := by decide +kernel
theorem dX8_odds_53 : decode cX8_odds 53 = .ok (.iload_n 1, 1) := by decide +kernel
theorem dX8_odds_54 : decode cX8_odds 54 = .ok (.iload_n 2, 1) := by decide +kernel
theorem dX8_odds_55 : decode cX8_odds 55 = .ok (.invokevirtual 160, 3) := by decide +kernel
theorem dX8_odds_58 : decode cX8_odds 58 = .ok (.iload_n 3, 1) := by decide +kernel
theorem dX8_odds_59 : decode cX8_odds 59 = .ok (.iconst (-1), 1) := by decide +kernel
theorem dX8_odds_60 : decode cX8_odds 60 = .ok (.if_icmp .ne 11, 3) := by decide +kernel
theorem dX8_odds_63 : decode cX8_odds 63 = .ok (.aload_n 0, 1) := by decide +kernel
theorem dX8_odds_64 : decode cX8_odds 64 = .ok (.iload_n 2, 1) := by decide +kernel
theorem dX8_odds_65 : decode cX8_odds 65 = .ok (.invokevirtual 154, 3) := by decide +kernel
theorem dX8_odds_68 : decode cX8_odds 68 = .ok (.goto 9, 3) := by decide +kernel
theorem dX8_odds_71 : decode cX8_odds 71 = .ok (.aload_n 0, 1) := by decide +kernel
theorem dX8_odds_72 : decode cX8_odds 72 = .ok (.getfield 47, 3) := by decide +kernel
theorem dX8_odds_75 : decode cX8_odds 75 = .ok (.iload_n 3, 1) := by decide +kernel
theorem dX8_odds_76 : decode cX8_odds 76 = .ok (.laload, 1) := by decide +kernel
theorem dX8_odds_77 : decode cX8_odds 77 = .ok (.lreturn, 1) := by decide +kernel
theorem dX8_close_0 : decode cX8_close 0 = .ok (.aload_n 0, 1) := by decide +kernel
theorem dX8_close_1 : decode cX8_close 1 = .ok (.iconst 0, 1) := by decide +kernel
theorem dX8_close_2 : decode cX8_close 2 = .ok (.putfield 57, 3) := by decide +kernel
theorem dX8_close_5 : decode cX8_close 5 = .ok (.iload_n 1, 1) := by decide +kernel
theorem dX8_close_6 : decode cX8_close 6 = .ok (.iconst 0, 1) := by decide +kernel
theorem dX8_close_7 : decode cX8_close 7 = .ok (.iconst 2, 1) := by decide +kernel
theorem dX8_close_8 : decode cX8_close 8 = .ok (.invokestatic 61, 3) := by decide +kernel
theorem dX8_close_11 : decode cX8_close 11 = .ok (.ifCond .eq 11, 3) := by decide +kernel
theorem dX8_close_14 : decode cX8_close 14 = .ok (.aload_n 0, 1) := by decide +kernel
theorem dX8_close_15 : decode cX8_close 15 = .ok (.iload_n 2, 1) := by decide +kernel
theorem dX8_close_16 : decode cX8_close 16 = .ok (.invokevirtual 136, 3) := by decide +kernel
theorem dX8_close_19 : decode cX8_close 19 = .ok (.ifCond .ne 7, 3) := by decide +kernel
theorem dX8_close_22 : decode cX8_close 22 = .ok (.ldc2_w 158, 3) := by decide +kernel
theorem dX8_close_25 : decode cX8_close 25 = .ok (.lreturn, 1) := by decide +kernel
theorem dX8_close_26 : decode cX8_close 26 = .ok (.aload_n 0, 1) := by decide +kernel
theorem dX8_close_27 : decode cX8_close 27 = .ok (.iload_n 2, 1) := by decide +kernel
theorem dX8_close_28 : decode cX8_close 28 = .ok (.invokevirtual 139, 3) := by decide +kernel
theorem dX8_close_31 : decode cX8_close 31 = .ok (.aload_n 0, 1) := by decide +kernel
theorem dX8_close_32 : decode cX8_close 32 = .ok (.iload_n 1, 1) := by decide +kernel
theorem dX8_close_33 : decode cX8_close 33 = .ok (.iload_n 2, 1) := by decide +kernel
theorem dX8_close_34 : decode cX8_close 34 = .ok (.invokevirtual 160, 3) := by decide +kernel
theorem dX8_close_37 : decode cX8_close 37 = .ok (.aload_n 0, 1) := by decide +kernel
theorem dX8_close_38 : decode cX8_close 38 = .ok (.iload_n 2, 1) := by decide +kernel
theorem dX8_close_39 : decode cX8_close 39 = .ok (.invokevirtual 164, 3) := by decide +kernel
theorem dX8_close_42 : decode cX8_close 42 = .ok (.lreturn, 1) := by decide +kernel
theorem dX8_evens_0 : decode cX8_evens 0 = .ok (.iload_n 2, 1) := by decide +kernel
theorem dX8_evens_1 : decode cX8_evens 1 = .ok (.invokestatic 129, 3) := by decide +kernel
theorem dX8_evens_4 : decode cX8_evens 4 = .ok (.istore_n 3, 1) := by decide +kernel
theorem dX8_evens_5 : decode cX8_evens 5 = .ok (.aload_n 0, 1) := by decide +kernel
theorem dX8_evens_6 : decode cX8_evens 6 = .ok (.ldc2_w 158, 3) := by decide +kernel
theorem dX8_evens_9 : decode cX8_evens 9 = .ok (.putfield 167, 3) := by decide +kernel
theorem dX8_evens_12 : decode cX8_evens 12 = .ok (.iload_n 3, 1) := by decide +kernel
theorem dX8_evens_13 : decode cX8_evens 13 = .ok (.iconst 2, 1) := by decide +kernel
theorem dX8_evens_14 : decode cX8_evens 14 = .ok (.if_icmp .ne 9, 3) := by decide +kernel
theorem dX8_evens_17 : decode cX8_evens 17 = .ok (.sipush 441, 3) := by decide +kernel
theorem dX8_evens_20 : decode cX8_evens 20 = .ok (.goto 6, 3) := by decide +kernel
theorem dX8_evens_23 : decode cX8_evens 23 = .ok (.sipush 9261, 3) := by decide +kernel
theorem dX8_evens_26 : decode cX8_evens 26 = .ok (.istore 4, 2) := by decide +kernel
theorem dX8_evens_28 : decode cX8_evens 28 = .ok (.iconst 0, 1) := by decide +kernel
theorem dX8_evens_29 : decode cX8_evens 29 = .ok (.istore 5, 2) := by decide +kernel
theorem dX8_evens_31 : decode cX8_evens 31 = .ok (.iload 5, 2) := by decide +kernel
theorem dX8_evens_33 : decode cX8_evens 33 = .ok (.iload 4, 2) := by decide +kernel
theorem dX8_evens_35 : decode cX8_evens 35 = .ok (.if_icmp .ge 159, 3) := by decide +kernel
theorem dX8_evens_38 : decode cX8_evens 38 = .ok (.iload 5, 2) := by decide +kernel
theorem dX8_evens_40 : decode cX8_evens 40 = .ok (.istore 6, 2) := by decide +kernel
theorem dX8_evens_42 : decode cX8_evens 42 = .ok (.bipush 21, 2) := by decide +kernel
theorem dX8_evens_44 : decode cX8_evens 44 = .ok (.istore 7, 2) := by decide +kernel
theorem dX8_evens_46 : decode cX8_evens 46 = .ok (.bipush 7, 2) := by decide +kernel
theorem dX8_evens_48 : decode cX8_evens 48 = .ok (.istore 8, 2) := by decide +kernel
theorem dX8_evens_50 : decode cX8_evens 50 = .ok (.iload 8, 2) := by decide +kernel
theorem dX8_evens_52 : decode cX8_evens 52 = .ok (.ifCond .lt 63, 3) := by decide +kernel
theorem dX8_evens_55 : decode cX8_evens 55 = .ok (.iload_n 2, 1) := by decide +kernel
theorem dX8_evens_56 : decode cX8_evens 56 = .ok (.iload 8, 2) := by decide +kernel
theorem dX8_evens_58 : decode cX8_evens 58 = .ok (.invokestatic 132, 3) := by decide +kernel
theorem dX8_evens_61 : decode cX8_evens 61 = .ok (.ifCond .eq 48, 3) := by decide +kernel
theorem dX8_evens_64 : decode cX8_evens 64 = .ok (.aload_n 0, 1) := by decide +kernel
theorem dX8_evens_65 : decode cX8_evens 65 = .ok (.getfield 44, 3) := by decide +kernel
theorem dX8_evens_68 : decode cX8_evens 68 = .ok (.iload 8, 2) := by decide +kernel
theorem dX8_evens_70 : decode cX8_evens 70 = .ok (.iload 6, 2) := by decide +kernel
theorem dX8_evens_72 : decode cX8_evens 72 = .ok (.bipush 21, 2) := by decide +kernel
theorem dX8_evens_74 : decode cX8_evens 74 = .ok (.irem, 1) := by decide +kernel
theorem dX8_evens_75 : decode cX8_evens 75 = .ok (.iastore, 1) := by decide +kernel
theorem dX8_evens_76 : decode cX8_evens 76 = .ok (.iload 6, 2) := by decide +kernel
theorem dX8_evens_78 : decode cX8_evens 78 = .ok (.bipush 21, 2) := by decide +kernel
theorem dX8_evens_80 : decode cX8_evens 80 = .ok (.idiv, 1) := by decide +kernel
theorem dX8_evens_81 : decode cX8_evens 81 = .ok (.istore 6, 2) := by decide +kernel
theorem dX8_evens_83 : decode cX8_evens 83 = .ok (.aload_n 0, 1) := by decide +kernel
theorem dX8_evens_84 : decode cX8_evens 84 = .ok (.getfield 44, 3) := by decide +kernel
theorem dX8_evens_87 : decode cX8_evens 87 = .ok (.iload 8, 2) := by decide +kernel
theorem dX8_evens_89 : decode cX8_evens 89 = .ok (.iaload, 1) := by decide +kernel
theorem dX8_evens_90 : decode cX8_evens 90 = .ok (.iload 7, 2) := by decide +kernel
theorem dX8_evens_92 : decode cX8_evens 92 = .ok (.if_icmp .ge 13, 3) := by decide +kernel
theorem dX8_evens_95 : decode cX8_evens 95 = .ok (.aload_n 0, 1) := by decide +kernel
theorem dX8_evens_96 : decode cX8_evens 96 = .ok (.getfield 44, 3) := by decide +kernel
theorem dX8_evens_99 : decode cX8_evens 99 = .ok (.iload 8, 2) := by decide +kernel
theorem dX8_evens_101 : decode cX8_evens 101 = .ok (.iaload, 1) := by decide +kernel
theorem dX8_evens_102 : decode cX8_evens 102 = .ok (.goto 5, 3) := by decide +kernel
theorem dX8_evens_105 : decode cX8_evens 105 = .ok (.iload 7, 2) := by decide +kernel
theorem dX8_evens_107 : decode cX8_evens 107 = .ok (.istore 7, 2) := by decide +kernel
theorem dX8_evens_109 : decode cX8_evens 109 = .ok (.iinc 8 (-1), 3) := by decide +kernel
theorem dX8_evens_112 : decode cX8_evens 112 = .ok (.goto (-62), 3) := by decide +kernel
theorem dX8_evens_115 : decode cX8_evens 115 = .ok (.iload 7, 2) := by decide +kernel
theorem dX8_evens_117 : decode cX8_evens 117 = .ok (.ifCond .ne 71, 3) := by decide +kernel
theorem dX8_evens_120 : decode cX8_evens 120 = .ok (.aload_n 0, 1) := by decide +kernel
theorem dX8_evens_121 : decode cX8_evens 121 = .ok (.iload_n 1, 1) := by decide +kernel
theorem dX8_evens_122 : decode cX8_evens 122 = .ok (.iload_n 2, 1) := by decide +kernel
theorem dX8_evens_123 : decode cX8_evens 123 = .ok (.invokevirtual 160, 3) := by decide +kernel
theorem dX8_evens_126 : decode cX8_evens 126 = .ok (.aload_n 0, 1) := by decide +kernel
theorem dX8_evens_127 : decode cX8_evens 127 = .ok (.iload_n 2, 1) := by decide +kernel
theorem dX8_evens_128 : decode cX8_evens 128 = .ok (.invokevirtual 164, 3) := by decide +kernel
theorem dX8_evens_131 : decode cX8_evens 131 = .ok (.lstore 8, 2) := by decide +kernel
theorem dX8_evens_133 : decode cX8_evens 133 = .ok (.aload_n 0, 1) := by decide +kernel
theorem dX8_evens_134 : decode cX8_evens 134 = .ok (.getfield 167, 3) := by decide +kernel
theorem dX8_evens_137 : decode cX8_evens 137 = .ok (.lconst 0, 1) := by decide +kernel
theorem dX8_evens_138 : decode cX8_evens 138 = .ok (.lcmp, 1) := by decide +kernel
theorem dX8_evens_139 : decode cX8_evens 139 = .ok (.ifCond .lt 13, 3) := by decide +kernel
theorem dX8_evens_142 : decode cX8_evens 142 = .ok (.lload 8, 2) := by decide +kernel
theorem dX8_evens_144 : decode cX8_evens 144 = .ok (.aload_n 0, 1) := by decide +kernel
theorem dX8_evens_145 : decode cX8_evens 145 = .ok (.getfield 167, 3) := by decide +kernel
theorem dX8_evens_148 : decode cX8_evens 148 = .ok (.lcmp, 1) := by decide +kernel
theorem dX8_evens_149 : decode cX8_evens 149 = .ok (.ifCond .ge 39, 3) := by decide +kernel
theorem dX8_evens_152 : decode cX8_evens 152 = .ok (.aload_n 0, 1) := by decide +kernel
theorem dX8_evens_153 : decode cX8_evens 153 = .ok (.lload 8, 2) := by decide +kernel
theorem dX8_evens_155 : decode cX8_evens 155 = .ok (.putfield 167, 3) := by decide +kernel
theorem dX8_evens_158 : decode cX8_evens 158 = .ok (.iconst 0, 1) := by decide +kernel
theorem dX8_evens_159 : decode cX8_evens 159 = .ok (.istore 10, 2) := by decide +kernel
theorem dX8_evens_161 : decode cX8_evens 161 = .ok (.iload 10, 2) := by decide +kernel
theorem dX8_evens_163 : decode cX8_evens 163 = .ok (.bipush 8, 2) := by decide +kernel
theorem dX8_evens_165 : decode cX8_evens 165 = .ok (.if_icmp .ge 23, 3) := by decide +kernel
theorem dX8_evens_168 : decode cX8_evens 168 = .ok (.aload_n 0, 1) := by decide +kernel
theorem dX8_evens_169 : decode cX8_evens 169 = .ok (.getfield 51, 3) := by decide +kernel
theorem dX8_evens_172 : decode cX8_evens 172 = .ok (.iload 10, 2) := by decide +kernel
theorem dX8_evens_174 : decode cX8_evens 174 = .ok (.aload_n 0, 1) := by decide +kernel
theorem dX8_evens_175 : decode cX8_evens 175 = .ok (.getfield 44, 3) := by decide +kernel
theorem dX8_evens_178 : decode cX8_evens 178 = .ok (.iload 10, 2) := by decide +kernel
theorem dX8_evens_180 : decode cX8_evens 180 = .ok (.iaload, 1) := by decide +kernel
theorem dX8_evens_181 : decode cX8_evens 181 = .ok (.iastore, 1) := by decide +kernel
theorem dX8_evens_182 : decode cX8_evens 182 = .ok (.iinc 10 1, 3) := by decide +kernel
theorem dX8_evens_185 : decode cX8_evens 185 = .ok (.goto (-24), 3) := by decide +kernel
theorem dX8_evens_188 : decode cX8_evens 188 = .ok (.iinc 5 1, 3) := by decide +kernel
theorem dX8_evens_191 : decode cX8_evens 191 = .ok (.goto (-160), 3) := by decide +kernel
theorem dX8_evens_194 : decode cX8_evens 194 = .ok (.return_, 1) := by decide +kernel
theorem dX8_even_0 : decode cX8_even 0 = .ok (.aload_n 0, 1) := by decide +kernel
theorem dX8_even_1 : decode cX8_even 1 = .ok (.iconst 0, 1) := by decide +kernel
theorem dX8_even_2 : decode cX8_even 2 = .ok (.putfield 57, 3) := by decide +kernel
theorem dX8_even_5 : decode cX8_even 5 = .ok (.iload_n 1, 1) := by decide +kernel
theorem dX8_even_6 : decode cX8_even 6 = .ok (.iconst 0, 1) := by decide +kernel
theorem dX8_even_7 : decode cX8_even 7 = .ok (.iconst 2, 1) := by decide +kernel
theorem dX8_even_8 : decode cX8_even 8 = .ok (.invokestatic 61, 3) := by decide +kernel
theorem dX8_even_11 : decode cX8_even 11 = .ok (.ifCond .eq 32, 3) := by decide +kernel
theorem dX8_even_14 : decode cX8_even 14 = .ok (.aload_n 0, 1) := by decide +kernel
theorem dX8_even_15 : decode cX8_even 15 = .ok (.iload_n 2, 1) := by decide +kernel
theorem dX8_even_16 : decode cX8_even 16 = .ok (.invokevirtual 136, 3) := by decide +kernel
theorem dX8_even_19 : decode cX8_even 19 = .ok (.ifCond .eq 24, 3) := by decide +kernel
theorem dX8_even_22 : decode cX8_even 22 = .ok (.iload_n 3, 1) := by decide +kernel
theorem dX8_even_23 : decode cX8_even 23 = .ok (.iconst (-1), 1) := by decide +kernel
theorem dX8_even_24 : decode cX8_even 24 = .ok (.if_icmp .eq 23, 3) := by decide +kernel
theorem dX8_even_27 : decode cX8_even 27 = .ok (.aload_n 0, 1) := by decide +kernel
theorem dX8_even_28 : decode cX8_even 28 = .ok (.iload_n 3, 1) := by decide +kernel
theorem dX8_even_29 : decode cX8_even 29 = .ok (.invokevirtual 65, 3) := by decide +kernel
theorem dX8_even_32 : decode cX8_even 32 = .ok (.ifCond .eq 11, 3) := by decide +kernel
theorem dX8_even_35 : decode cX8_even 35 = .ok (.iload_n 2, 1) := by decide +kernel
theorem dX8_even_36 : decode cX8_even 36 = .ok (.iload_n 3, 1) := by decide +kernel
theorem dX8_even_37 : decode cX8_even 37 = .ok (.invokestatic 132, 3) := by decide +kernel
theorem dX8_even_40 : decode cX8_even 40 = .ok (.ifCond .ne 7, 3) := by decide +kernel
theorem dX8_even_43 : decode cX8_even 43 = .ok (.ldc2_w 158, 3) := by decide +kernel
theorem dX8_even_46 : decode cX8_even 46 = .ok (.lreturn, 1) := by decide +kernel
theorem dX8_even_47 : decode cX8_even 47 = .ok (.iload_n 2, 1) := by decide +kernel
theorem dX8_even_48 : decode cX8_even 48 = .ok (.invokestatic 129, 3) := by decide +kernel
theorem dX8_even_51 : decode cX8_even 51 = .ok (.iconst 3, 1) := by decide +kernel
theorem dX8_even_52 : decode cX8_even 52 = .ok (.if_icmp .le 7, 3) := by decide +kernel
theorem dX8_even_55 : decode cX8_even 55 = .ok (.ldc2_w 171, 3) := by decide +kernel
theorem dX8_even_58 : decode cX8_even 58 = .ok (.lreturn, 1) := by decide +kernel
theorem dX8_even_59 : decode cX8_even 59 = .ok (.aload_n 0, 1) := by decide +kernel
theorem dX8_even_60 : decode cX8_even 60 = .ok (.iload_n 1, 1) := by decide +kernel
theorem dX8_even_61 : decode cX8_even 61 = .ok (.iload_n 2, 1) := by decide +kernel
theorem dX8_even_62 : decode cX8_even 62 = .ok (.invokevirtual 173, 3) := by decide +kernel
theorem dX8_even_65 : decode cX8_even 65 = .ok (.iload_n 3, 1) := by decide +kernel
theorem dX8_even_66 : decode cX8_even 66 = .ok (.iconst (-1), 1) := by decide +kernel
theorem dX8_even_67 : decode cX8_even 67 = .ok (.if_icmp .ne 10, 3) := by decide +kernel
theorem dX8_even_70 : decode cX8_even 70 = .ok (.aload_n 0, 1) := by decide +kernel
theorem dX8_even_71 : decode cX8_even 71 = .ok (.getfield 167, 3) := by decide +kernel
theorem dX8_even_74 : decode cX8_even 74 = .ok (.goto 10, 3) := by decide +kernel
theorem dX8_even_77 : decode cX8_even 77 = .ok (.aload_n 0, 1) := by decide +kernel
theorem dX8_even_78 : decode cX8_even 78 = .ok (.getfield 51, 3) := by decide +kernel
theorem dX8_even_81 : decode cX8_even 81 = .ok (.iload_n 3, 1) := by decide +kernel
theorem dX8_even_82 : decode cX8_even 82 = .ok (.iaload, 1) := by decide +kernel
theorem dX8_even_83 : decode cX8_even 83 = .ok (.i2l, 1) := by decide +kernel
theorem dX8_even_84 : decode cX8_even 84 = .ok (.lreturn, 1) := by decide +kernel
theorem dX8_good_0 : decode cX8_good 0 = .ok (.aload_n 0, 1) := by decide +kernel
theorem dX8_good_1 : decode cX8_good 1 = .ok (.iconst 0, 1) := by decide +kernel
theorem dX8_good_2 : decode cX8_good 2 = .ok (.putfield 57, 3) := by decide +kernel
theorem dX8_good_5 : decode cX8_good 5 = .ok (.iload_n 1, 1) := by decide +kernel
theorem dX8_good_6 : decode cX8_good 6 = .ok (.iconst 1, 1) := by decide +kernel
theorem dX8_good_7 : decode cX8_good 7 = .ok (.bipush 6, 2) := by decide +kernel
theorem dX8_good_9 : decode cX8_good 9 = .ok (.invokestatic 61, 3) := by decide +kernel
theorem dX8_good_12 : decode cX8_good 12 = .ok (.ifCond .eq 22, 3) := by decide +kernel
theorem dX8_good_15 : decode cX8_good 15 = .ok (.iload_n 2, 1) := by decide +kernel
theorem dX8_good_16 : decode cX8_good 16 = .ok (.iconst 0, 1) := by decide +kernel
theorem dX8_good_17 : decode cX8_good 17 = .ok (.bipush 20, 2) := by decide +kernel
theorem dX8_good_19 : decode cX8_good 19 = .ok (.invokestatic 61, 3) := by decide +kernel
theorem dX8_good_22 : decode cX8_good 22 = .ok (.ifCond .eq 12, 3) := by decide +kernel
theorem dX8_good_25 : decode cX8_good 25 = .ok (.iload_n 3, 1) := by decide +kernel
theorem dX8_good_26 : decode cX8_good 26 = .ok (.iconst 0, 1) := by decide +kernel
theorem dX8_good_27 : decode cX8_good 27 = .ok (.iconst 1, 1) := by decide +kernel
theorem dX8_good_28 : decode cX8_good 28 = .ok (.invokestatic 61, 3) := by decide +kernel
theorem dX8_good_31 : decode cX8_good 31 = .ok (.ifCond .ne 5, 3) := by decide +kernel
theorem dX8_good_34 : decode cX8_good 34 = .ok (.iconst (-1), 1) := by decide +kernel
theorem dX8_good_35 : decode cX8_good 35 = .ok (.ireturn, 1) := by decide +kernel
theorem dX8_good_36 : decode cX8_good 36 = .ok (.iconst 2, 1) := by decide +kernel
theorem dX8_good_37 : decode cX8_good 37 = .ok (.aload_n 0, 1) := by decide +kernel
theorem dX8_good_38 : decode cX8_good 38 = .ok (.getfield 20, 3) := by decide +kernel
theorem dX8_good_41 : decode cX8_good 41 = .ok (.iconst 0, 1) := by decide +kernel
theorem dX8_good_42 : decode cX8_good 42 = .ok (.iaload, 1) := by decide +kernel
theorem dX8_good_43 : decode cX8_good 43 = .ok (.imul, 1) := by decide +kernel
theorem dX8_good_44 : decode cX8_good 44 = .ok (.iconst 1, 1) := by decide +kernel
theorem dX8_good_45 : decode cX8_good 45 = .ok (.iadd, 1) := by decide +kernel
theorem dX8_good_46 : decode cX8_good 46 = .ok (.istore 4, 2) := by decide +kernel
theorem dX8_good_48 : decode cX8_good 48 = .ok (.iconst 1, 1) := by decide +kernel
theorem dX8_good_49 : decode cX8_good 49 = .ok (.istore 5, 2) := by decide +kernel
theorem dX8_good_51 : decode cX8_good 51 = .ok (.iconst 0, 1) := by decide +kernel
theorem dX8_good_52 : decode cX8_good 52 = .ok (.istore 6, 2) := by decide +kernel
theorem dX8_good_54 : decode cX8_good 54 = .ok (.iload 6, 2) := by decide +kernel
theorem dX8_good_56 : decode cX8_good 56 = .ok (.iload_n 1, 1) := by decide +kernel
theorem dX8_good_57 : decode cX8_good 57 = .ok (.if_icmp .ge 16, 3) := by decide +kernel
theorem dX8_good_60 : decode cX8_good 60 = .ok (.iload 5, 2) := by decide +kernel
theorem dX8_good_62 : decode cX8_good 62 = .ok (.iload 4, 2) := by decide +kernel
theorem dX8_good_64 : decode cX8_good 64 = .ok (.imul, 1) := by decide +kernel
theorem dX8_good_65 : decode cX8_good 65 = .ok (.istore 5, 2) := by decide +kernel
theorem dX8_good_67 : decode cX8_good 67 = .ok (.iinc 6 1, 3) := by decide +kernel
theorem dX8_good_70 : decode cX8_good 70 = .ok (.goto (-16), 3) := by decide +kernel
theorem dX8_good_73 : decode cX8_good 73 = .ok (.iconst 0, 1) := by decide +kernel
theorem dX8_good_74 : decode cX8_good 74 = .ok (.istore 6, 2) := by decide +kernel
theorem dX8_good_76 : decode cX8_good 76 = .ok (.iconst 0, 1) := by decide +kernel
theorem dX8_good_77 : decode cX8_good 77 = .ok (.istore 7, 2) := by decide +kernel
theorem dX8_good_79 : decode cX8_good 79 = .ok (.iload 7, 2) := by decide +kernel
theorem dX8_good_81 : decode cX8_good 81 = .ok (.iload_n 1, 1) := by decide +kernel
theorem dX8_good_82 : decode cX8_good 82 = .ok (.if_icmp .ge 17, 3) := by decide +kernel
theorem dX8_good_85 : decode cX8_good 85 = .ok (.aload_n 0, 1) := by decide +kernel
theorem dX8_good_86 : decode cX8_good 86 = .ok (.getfield 41, 3) := by decide +kernel
theorem dX8_good_89 : decode cX8_good 89 = .ok (.iload 7, 2) := by decide +kernel
theorem dX8_good_91 : decode cX8_good 91 = .ok (.iconst 0, 1) := by decide +kernel
theorem dX8_good_92 : decode cX8_good 92 = .ok (.iastore, 1) := by decide +kernel
theorem dX8_good_93 : decode cX8_good 93 = .ok (.iinc 7 1, 3) := by decide +kernel
theorem dX8_good_96 : decode cX8_good 96 = .ok (.goto (-17), 3) := by decide +kernel
theorem dX8_good_99 : decode cX8_good 99 = .ok (.iconst 1, 1) := by decide +kernel
theorem dX8_good_100 : decode cX8_good 100 = .ok (.istore 7, 2) := by decide +kernel
theorem dX8_good_102 : decode cX8_good 102 = .ok (.iload 7, 2) := by decide +kernel
theorem dX8_good_104 : decode cX8_good 104 = .ok (.ifCond .eq 190, 3) := by decide +kernel
theorem dX8_good_107 : decode cX8_good 107 = .ok (.aload_n 0, 1) := by decide +kernel
theorem dX8_good_108 : decode cX8_good 108 = .ok (.getfield 41, 3) := by decide +kernel
theorem dX8_good_111 : decode cX8_good 111 = .ok (.iload_n 1, 1) := by decide +kernel
theorem dX8_good_112 : decode cX8_good 112 = .ok (.iconst 1, 1) := by decide +kernel
theorem dX8_good_113 : decode cX8_good 113 = .ok (.isub, 1) := by decide +kernel
theorem dX8_good_114 : decode cX8_good 114 = .ok (.iaload, 1) := by decide +kernel
theorem dX8_good_115 : decode cX8_good 115 = .ok (.aload_n 0, 1) := by decide +kernel
theorem dX8_good_116 : decode cX8_good 116 = .ok (.getfield 41, 3) := by decide +kernel
theorem dX8_good_119 : decode cX8_good 119 = .ok (.iload_n 1, 1) := by decide +kernel
theorem dX8_good_120 : decode cX8_good 120 = .ok (.iconst 1, 1) := by decide +kernel
theorem dX8_good_121 : decode cX8_good 121 = .ok (.isub, 1) := by decide +kernel
theorem dX8_good_122 : decode cX8_good 122 = .ok (.iconst 2, 1) := by decide +kernel
theorem dX8_good_123 : decode cX8_good 123 = .ok (.idiv, 1) := by decide +kernel
theorem dX8_good_124 : decode cX8_good 124 = .ok (.iaload, 1) := by decide +kernel
theorem dX8_good_125 : decode cX8_good 125 = .ok (.isub, 1) := by decide +kernel
theorem dX8_good_126 : decode cX8_good 126 = .ok (.iload_n 2, 1) := by decide +kernel
theorem dX8_good_127 : decode cX8_good 127 = .ok (.if_icmp .lt 72, 3) := by decide +kernel
theorem dX8_good_130 : decode cX8_good 130 = .ok (.iconst 1, 1) := by decide +kernel
theorem dX8_good_131 : decode cX8_good 131 = .ok (.istore 8, 2) := by decide +kernel
theorem dX8_good_133 : decode cX8_good 133 = .ok (.iconst 1, 1) := by decide +kernel
theorem dX8_good_134 : decode cX8_good 134 = .ok (.istore 9, 2) := by decide +kernel
theorem dX8_good_136 : decode cX8_good 136 = .ok (.iconst 1, 1) := by decide +kernel
theorem dX8_good_137 : decode cX8_good 137 = .ok (.istore 10, 2) := by decide +kernel
theorem dX8_good_139 : decode cX8_good 139 = .ok (.iload 10, 2) := by decide +kernel
theorem dX8_good_141 : decode cX8_good 141 = .ok (.iload_n 1, 1) := by decide +kernel
theorem dX8_good_142 : decode cX8_good 142 = .ok (.if_icmp .ge 50, 3) := by decide +kernel
theorem dX8_good_145 : decode cX8_good 145 = .ok (.aload_n 0, 1) := by decide +kernel
theorem dX8_good_146 : decode cX8_good 146 = .ok (.getfield 41, 3) := by decide +kernel
theorem dX8_good_149 : decode cX8_good 149 = .ok (.iload 10, 2) := by decide +kernel
theorem dX8_good_151 : decode cX8_good 151 = .ok (.iaload, 1) := by decide +kernel
theorem dX8_good_152 : decode cX8_good 152 = .ok (.aload_n 0, 1) := by decide +kernel
theorem dX8_good_153 : decode cX8_good 153 = .ok (.getfield 41, 3) := by decide +kernel
theorem dX8_good_156 : decode cX8_good 156 = .ok (.iload 10, 2) := by decide +kernel
theorem dX8_good_158 : decode cX8_good 158 = .ok (.iconst 1, 1) := by decide +kernel
theorem dX8_good_159 : decode cX8_good 159 = .ok (.isub, 1) := by decide +kernel
theorem dX8_good_160 : decode cX8_good 160 = .ok (.iaload, 1) := by decide +kernel
theorem dX8_good_161 : decode cX8_good 161 = .ok (.if_icmp .ne 10, 3) := by decide +kernel
theorem dX8_good_164 : decode cX8_good 164 = .ok (.iload 9, 2) := by decide +kernel
theorem dX8_good_166 : decode cX8_good 166 = .ok (.iconst 1, 1) := by decide +kernel
theorem dX8_good_167 : decode cX8_good 167 = .ok (.iadd, 1) := by decide +kernel
theorem dX8_good_168 : decode cX8_good 168 = .ok (.goto 4, 3) := by decide +kernel
theorem dX8_good_171 : decode cX8_good 171 = .ok (.iconst 1, 1) := by decide +kernel
theorem dX8_good_172 : decode cX8_good 172 = .ok (.istore 9, 2) := by decide +kernel
theorem dX8_good_174 : decode cX8_good 174 = .ok (.iload 8, 2) := by decide +kernel
theorem dX8_good_176 : decode cX8_good 176 = .ok (.iload 10, 2) := by decide +kernel
theorem dX8_good_178 : decode cX8_good 178 = .ok (.iconst 1, 1) := by decide +kernel
theorem dX8_good_179 : decode cX8_good 179 = .ok (.iadd, 1) := by decide +kernel
theorem dX8_good_180 : decode cX8_good 180 = .ok (.imul, 1) := by decide +kernel
theorem dX8_good_181 : decode cX8_good 181 = .ok (.iload 9, 2) := by decide +kernel
theorem dX8_good_183 : decode cX8_good 183 = .ok (.idiv, 1) := by decide +kernel
theorem dX8_good_184 : decode cX8_good 184 = .ok (.istore 8, 2) := by decide +kernel
theorem dX8_good_186 : decode cX8_good 186 = .ok (.iinc 10 1, 3) := by decide +kernel
theorem dX8_good_189 : decode cX8_good 189 = .ok (.goto (-50), 3) := by decide +kernel
theorem dX8_good_192 : decode cX8_good 192 = .ok (.iload 6, 2) := by decide +kernel
theorem dX8_good_194 : decode cX8_good 194 = .ok (.iload 8, 2) := by decide +kernel
theorem dX8_good_196 : decode cX8_good 196 = .ok (.iadd, 1) := by decide +kernel
theorem dX8_good_197 : decode cX8_good 197 = .ok (.istore 6, 2) := by decide +kernel
theorem dX8_good_199 : decode cX8_good 199 = .ok (.iload_n 1, 1) := by decide +kernel
theorem dX8_good_200 : decode cX8_good 200 = .ok (.iconst 1, 1) := by decide +kernel
theorem dX8_good_201 : decode cX8_good 201 = .ok (.isub, 1) := by decide +kernel
theorem dX8_good_202 : decode cX8_good 202 = .ok (.istore 8, 2) := by decide +kernel
theorem dX8_good_204 : decode cX8_good 204 = .ok (.iload 8, 2) := by decide +kernel
theorem dX8_good_206 : decode cX8_good 206 = .ok (.ifCond .lt 23, 3) := by decide +kernel
theorem dX8_good_209 : decode cX8_good 209 = .ok (.aload_n 0, 1) := by decide +kernel
theorem dX8_good_210 : decode cX8_good 210 = .ok (.getfield 41, 3) := by decide +kernel
theorem dX8_good_213 : decode cX8_good 213 = .ok (.iload 8, 2) := by decide +kernel
theorem dX8_good_215 : decode cX8_good 215 = .ok (.iaload, 1) := by decide +kernel
theorem dX8_good_216 : decode cX8_good 216 = .ok (.iload 4, 2) := by decide +kernel
theorem dX8_good_218 : decode cX8_good 218 = .ok (.iconst 1, 1) := by decide +kernel
theorem dX8_good_219 : decode cX8_good 219 = .ok (.isub, 1) := by decide +kernel
theorem dX8_good_220 : decode cX8_good 220 = .ok (.if_icmp .ne 9, 3) := by decide +kernel
theorem dX8_good_223 : decode cX8_good 223 = .ok (.iinc 8 (-1), 3) := by decide +kernel
theorem dX8_good_226 : decode cX8_good 226 = .ok (.goto (-22), 3) := by decide +kernel
theorem dX8_good_229 : decode cX8_good 229 = .ok (.iload 8, 2) := by decide +kernel
theorem dX8_good_231 : decode cX8_good 231 = .ok (.ifCond .lt 7, 3) := by decide +kernel
theorem dX8_good_234 : decode cX8_good 234 = .ok (.iconst 1, 1) := by decide +kernel
theorem dX8_good_235 : decode cX8_good 235 = .ok (.goto 4, 3) := by decide +kernel
theorem dX8_good_238 : decode cX8_good 238 = .ok (.iconst 0, 1) := by decide +kernel
theorem dX8_good_239 : decode cX8_good 239 = .ok (.istore 7, 2) := by decide +kernel
theorem dX8_good_241 : decode cX8_good 241 = .ok (.iload 7, 2) := by decide +kernel
theorem dX8_good_243 : decode cX8_good 243 = .ok (.ifCond .eq 15, 3) := by decide +kernel
theorem dX8_good_246 : decode cX8_good 246 = .ok (.aload_n 0, 1) := by decide +kernel
theorem dX8_good_247 : decode cX8_good 247 = .ok (.getfield 41, 3) := by decide +kernel
theorem dX8_good_250 : decode cX8_good 250 = .ok (.iload 8, 2) := by decide +kernel
theorem dX8_good_252 : decode cX8_good 252 = .ok (.iaload, 1) := by decide +kernel
theorem dX8_good_253 : decode cX8_good 253 = .ok (.iconst 1, 1) := by decide +kernel
theorem dX8_good_254 : decode cX8_good 254 = .ok (.iadd, 1) := by decide +kernel
theorem dX8_good_255 : decode cX8_good 255 = .ok (.goto 4, 3) := by decide +kernel
theorem dX8_good_258 : decode cX8_good 258 = .ok (.iconst 0, 1) := by decide +kernel
theorem dX8_good_259 : decode cX8_good 259 = .ok (.istore 9, 2) := by decide +kernel
theorem dX8_good_261 : decode cX8_good 261 = .ok (.iload 8, 2) := by decide +kernel
theorem dX8_good_263 : decode cX8_good 263 = .ok (.istore 10, 2) := by decide +kernel
theorem dX8_good_265 : decode cX8_good 265 = .ok (.iload 10, 2) := by decide +kernel
theorem dX8_good_267 : decode cX8_good 267 = .ok (.iload_n 1, 1) := by decide +kernel
theorem dX8_good_268 : decode cX8_good 268 = .ok (.if_icmp .ge 23, 3) := by decide +kernel
theorem dX8_good_271 : decode cX8_good 271 = .ok (.iload 7, 2) := by decide +kernel
theorem dX8_good_273 : decode cX8_good 273 = .ok (.ifCond .eq 18, 3) := by decide +kernel
theorem dX8_good_276 : decode cX8_good 276 = .ok (.aload_n 0, 1) := by decide +kernel
theorem dX8_good_277 : decode cX8_good 277 = .ok (.getfield 41, 3) := by decide +kernel
theorem dX8_good_280 : decode cX8_good 280 = .ok (.iload 10, 2) := by decide +kernel
theorem dX8_good_282 : decode cX8_good 282 = .ok (.iload 9, 2) := by decide +kernel
theorem dX8_good_284 : decode cX8_good 284 = .ok (.iastore, 1) := by decide +kernel
theorem dX8_good_285 : decode cX8_good 285 = .ok (.iinc 10 1, 3) := by decide +kernel
theorem dX8_good_288 : decode cX8_good 288 = .ok (.goto (-23), 3) := by decide +kernel
theorem dX8_good_291 : decode cX8_good 291 = .ok (.goto (-189), 3) := by decide +kernel
theorem dX8_good_294 : decode cX8_good 294 = .ok (.iload_n 3, 1) := by decide +kernel
theorem dX8_good_295 : decode cX8_good 295 = .ok (.ifCond .ne 8, 3) := by decide +kernel
theorem dX8_good_298 : decode cX8_good 298 = .ok (.iload 6, 2) := by decide +kernel
theorem dX8_good_300 : decode cX8_good 300 = .ok (.goto 5, 3) := by decide +kernel
theorem dX8_good_303 : decode cX8_good 303 = .ok (.iload 5, 2) := by decide +kernel
theorem dX8_good_305 : decode cX8_good 305 = .ok (.ireturn, 1) := by decide +kernel
theorem dX8_behind_0 : decode cX8_behind 0 = .ok (.aload_n 0, 1) := by decide +kernel
theorem dX8_behind_1 : decode cX8_behind 1 = .ok (.iconst 0, 1) := by decide +kernel
theorem dX8_behind_2 : decode cX8_behind 2 = .ok (.putfield 57, 3) := by decide +kernel
theorem dX8_behind_5 : decode cX8_behind 5 = .ok (.iload_n 1, 1) := by decide +kernel
theorem dX8_behind_6 : decode cX8_behind 6 = .ok (.iconst 0, 1) := by decide +kernel
theorem dX8_behind_7 : decode cX8_behind 7 = .ok (.sipush 200, 3) := by decide +kernel
theorem dX8_behind_10 : decode cX8_behind 10 = .ok (.invokestatic 61, 3) := by decide +kernel
theorem dX8_behind_13 : decode cX8_behind 13 = .ok (.ifCond .eq 24, 3) := by decide +kernel
theorem dX8_behind_16 : decode cX8_behind 16 = .ok (.iload_n 2, 1) := by decide +kernel
theorem dX8_behind_17 : decode cX8_behind 17 = .ok (.bipush (-9), 2) := by decide +kernel
theorem dX8_behind_19 : decode cX8_behind 19 = .ok (.bipush 9, 2) := by decide +kernel
theorem dX8_behind_21 : decode cX8_behind 21 = .ok (.invokestatic 61, 3) := by decide +kernel
theorem dX8_behind_24 : decode cX8_behind 24 = .ok (.ifCond .eq 13, 3) := by decide +kernel
theorem dX8_behind_27 : decode cX8_behind 27 = .ok (.iload_n 3, 1) := by decide +kernel
theorem dX8_behind_28 : decode cX8_behind 28 = .ok (.iconst 0, 1) := by decide +kernel
theorem dX8_behind_29 : decode cX8_behind 29 = .ok (.bipush 40, 2) := by decide +kernel
theorem dX8_behind_31 : decode cX8_behind 31 = .ok (.invokestatic 61, 3) := by decide +kernel
theorem dX8_behind_34 : decode cX8_behind 34 = .ok (.ifCond .ne 6, 3) := by decide +kernel
theorem dX8_behind_37 : decode cX8_behind 37 = .ok (.ldc 69, 2) := by decide +kernel
theorem dX8_behind_39 : decode cX8_behind 39 = .ok (.ireturn, 1) := by decide +kernel
theorem dX8_behind_40 : decode cX8_behind 40 = .ok (.aload_n 0, 1) := by decide +kernel
theorem dX8_behind_41 : decode cX8_behind 41 = .ok (.iconst 0, 1) := by decide +kernel
theorem dX8_behind_42 : decode cX8_behind 42 = .ok (.putfield 119, 3) := by decide +kernel
theorem dX8_behind_45 : decode cX8_behind 45 = .ok (.iload_n 1, 1) := by decide +kernel
theorem dX8_behind_46 : decode cX8_behind 46 = .ok (.istore 4, 2) := by decide +kernel
theorem dX8_behind_48 : decode cX8_behind 48 = .ok (.iload_n 1, 1) := by decide +kernel
theorem dX8_behind_49 : decode cX8_behind 49 = .ok (.istore 5, 2) := by decide +kernel
theorem dX8_behind_51 : decode cX8_behind 51 = .ok (.iconst 0, 1) := by decide +kernel
theorem dX8_behind_52 : decode cX8_behind 52 = .ok (.istore 6, 2) := by decide +kernel
theorem dX8_behind_54 : decode cX8_behind 54 = .ok (.iload 6, 2) := by decide +kernel
theorem dX8_behind_56 : decode cX8_behind 56 = .ok (.iload_n 3, 1) := by decide +kernel
theorem dX8_behind_57 : decode cX8_behind 57 = .ok (.if_icmp .ge 32, 3) := by decide +kernel
theorem dX8_behind_60 : decode cX8_behind 60 = .ok (.aload_n 0, 1) := by decide +kernel
theorem dX8_behind_61 : decode cX8_behind 61 = .ok (.iload 5, 2) := by decide +kernel
theorem dX8_behind_63 : decode cX8_behind 63 = .ok (.iload 4, 2) := by decide +kernel
theorem dX8_behind_65 : decode cX8_behind 65 = .ok (.invokevirtual 148, 3) := by decide +kernel
theorem dX8_behind_68 : decode cX8_behind 68 = .ok (.istore 5, 2) := by decide +kernel
theorem dX8_behind_70 : decode cX8_behind 70 = .ok (.iload 4, 2) := by decide +kernel
theorem dX8_behind_72 : decode cX8_behind 72 = .ok (.iload_n 2, 1) := by decide +kernel
theorem dX8_behind_73 : decode cX8_behind 73 = .ok (.iadd, 1) := by decide +kernel
theorem dX8_behind_74 : decode cX8_behind 74 = .ok (.iconst 0, 1) := by decide +kernel
theorem dX8_behind_75 : decode cX8_behind 75 = .ok (.sipush 200, 3) := by decide +kernel
theorem dX8_behind_78 : decode cX8_behind 78 = .ok (.invokestatic 125, 3) := by decide +kernel
theorem dX8_behind_81 : decode cX8_behind 81 = .ok (.istore 4, 2) := by decide +kernel
theorem dX8_behind_83 : decode cX8_behind 83 = .ok (.iinc 6 1, 3) := by decide +kernel
theorem dX8_behind_86 : decode cX8_behind 86 = .ok (.goto (-32), 3) := by decide +kernel
theorem dX8_behind_89 : decode cX8_behind 89 = .ok (.iload 4, 2) := by decide +kernel
theorem dX8_behind_91 : decode cX8_behind 91 = .ok (.iload 5, 2) := by decide +kernel
theorem dX8_behind_93 : decode cX8_behind 93 = .ok (.isub, 1) := by decide +kernel
theorem dX8_behind_94 : decode cX8_behind 94 = .ok (.ireturn, 1) := by decide +kernel
theorem dX8_card_0 : decode cX8_card 0 = .ok (.aload_n 0, 1) := by decide +kernel
theorem dX8_card_1 : decode cX8_card 1 = .ok (.iconst 0, 1) := by decide +kernel
theorem dX8_card_2 : decode cX8_card 2 = .ok (.putfield 57, 3) := by decide +kernel
theorem dX8_card_5 : decode cX8_card 5 = .ok (.iload_n 1, 1) := by decide +kernel
theorem dX8_card_6 : decode cX8_card 6 = .ok (.iconst 0, 1) := by decide +kernel
theorem dX8_card_7 : decode cX8_card 7 = .ok (.bipush 9, 2) := by decide +kernel
theorem dX8_card_9 : decode cX8_card 9 = .ok (.invokestatic 61, 3) := by decide +kernel
theorem dX8_card_12 : decode cX8_card 12 = .ok (.ifCond .eq 23, 3) := by decide +kernel
theorem dX8_card_15 : decode cX8_card 15 = .ok (.iload_n 2, 1) := by decide +kernel
theorem dX8_card_16 : decode cX8_card 16 = .ok (.iconst 0, 1) := by decide +kernel
theorem dX8_card_17 : decode cX8_card 17 = .ok (.iconst 1, 1) := by decide +kernel
theorem dX8_card_18 : decode cX8_card 18 = .ok (.invokestatic 61, 3) := by decide +kernel
theorem dX8_card_21 : decode cX8_card 21 = .ok (.ifCond .eq 14, 3) := by decide +kernel
theorem dX8_card_24 : decode cX8_card 24 = .ok (.iload_n 3, 1) := by decide +kernel
theorem dX8_card_25 : decode cX8_card 25 = .ok (.iconst 0, 1) := by decide +kernel
theorem dX8_card_26 : decode cX8_card 26 = .ok (.sipush 200, 3) := by decide +kernel
theorem dX8_card_29 : decode cX8_card 29 = .ok (.invokestatic 61, 3) := by decide +kernel
theorem dX8_card_32 : decode cX8_card 32 = .ok (.ifCond .ne 5, 3) := by decide +kernel
theorem dX8_card_35 : decode cX8_card 35 = .ok (.iconst (-1), 1) := by decide +kernel
theorem dX8_card_36 : decode cX8_card 36 = .ok (.ireturn, 1) := by decide +kernel
theorem dX8_card_37 : decode cX8_card 37 = .ok (.aload_n 0, 1) := by decide +kernel
theorem dX8_card_38 : decode cX8_card 38 = .ok (.getfield 32, 3) := by decide +kernel
theorem dX8_card_41 : decode cX8_card 41 = .ok (.iconst 2, 1) := by decide +kernel
theorem dX8_card_42 : decode cX8_card 42 = .ok (.iload_n 1, 1) := by decide +kernel
theorem dX8_card_43 : decode cX8_card 43 = .ok (.imul, 1) := by decide +kernel
theorem dX8_card_44 : decode cX8_card 44 = .ok (.iload_n 2, 1) := by decide +kernel
theorem dX8_card_45 : decode cX8_card 45 = .ok (.iadd, 1) := by decide +kernel
theorem dX8_card_46 : decode cX8_card 46 = .ok (.iaload, 1) := by decide +kernel
theorem dX8_card_47 : decode cX8_card 47 = .ok (.istore 4, 2) := by decide +kernel
theorem dX8_card_49 : decode cX8_card 49 = .ok (.aload_n 0, 1) := by decide +kernel
theorem dX8_card_50 : decode cX8_card 50 = .ok (.getfield 32, 3) := by decide +kernel
theorem dX8_card_53 : decode cX8_card 53 = .ok (.iconst 2, 1) := by decide +kernel
theorem dX8_card_54 : decode cX8_card 54 = .ok (.iload_n 1, 1) := by decide +kernel
theorem dX8_card_55 : decode cX8_card 55 = .ok (.imul, 1) := by decide +kernel
theorem dX8_card_56 : decode cX8_card 56 = .ok (.iload_n 2, 1) := by decide +kernel
theorem dX8_card_57 : decode cX8_card 57 = .ok (.iadd, 1) := by decide +kernel
theorem dX8_card_58 : decode cX8_card 58 = .ok (.iload_n 3, 1) := by decide +kernel
theorem dX8_card_59 : decode cX8_card 59 = .ok (.iastore, 1) := by decide +kernel
theorem dX8_card_60 : decode cX8_card 60 = .ok (.iload 4, 2) := by decide +kernel
theorem dX8_card_62 : decode cX8_card 62 = .ok (.ireturn, 1) := by decide +kernel
theorem dX8_wins_0 : decode cX8_wins 0 = .ok (.aload_n 0, 1) := by decide +kernel
theorem dX8_wins_1 : decode cX8_wins 1 = .ok (.iconst 0, 1) := by decide +kernel
theorem dX8_wins_2 : decode cX8_wins 2 = .ok (.putfield 119, 3) := by decide +kernel
theorem dX8_wins_5 : decode cX8_wins 5 = .ok (.iload_n 1, 1) := by decide +kernel
theorem dX8_wins_6 : decode cX8_wins 6 = .ok (.istore 4, 2) := by decide +kernel
theorem dX8_wins_8 : decode cX8_wins 8 = .ok (.iconst 0, 1) := by decide +kernel
theorem dX8_wins_9 : decode cX8_wins 9 = .ok (.istore 5, 2) := by decide +kernel
theorem dX8_wins_11 : decode cX8_wins 11 = .ok (.iconst 0, 1) := by decide +kernel
theorem dX8_wins_12 : decode cX8_wins 12 = .ok (.istore 6, 2) := by decide +kernel
theorem dX8_wins_14 : decode cX8_wins 14 = .ok (.iload 6, 2) := by decide +kernel
theorem dX8_wins_16 : decode cX8_wins 16 = .ok (.iload_n 2, 1) := by decide +kernel
theorem dX8_wins_17 : decode cX8_wins 17 = .ok (.if_icmp .ge 131, 3) := by decide +kernel
theorem dX8_wins_20 : decode cX8_wins 20 = .ok (.aload_n 0, 1) := by decide +kernel
theorem dX8_wins_21 : decode cX8_wins 21 = .ok (.getfield 32, 3) := by decide +kernel
theorem dX8_wins_24 : decode cX8_wins 24 = .ok (.iconst 2, 1) := by decide +kernel
theorem dX8_wins_25 : decode cX8_wins 25 = .ok (.iload 6, 2) := by decide +kernel
theorem dX8_wins_27 : decode cX8_wins 27 = .ok (.imul, 1) := by decide +kernel
theorem dX8_wins_28 : decode cX8_wins 28 = .ok (.iaload, 1) := by decide +kernel
theorem dX8_wins_29 : decode cX8_wins 29 = .ok (.istore 7, 2) := by decide +kernel
theorem dX8_wins_31 : decode cX8_wins 31 = .ok (.iload 4, 2) := by decide +kernel
theorem dX8_wins_33 : decode cX8_wins 33 = .ok (.iload 7, 2) := by decide +kernel
theorem dX8_wins_35 : decode cX8_wins 35 = .ok (.if_icmp .le 11, 3) := by decide +kernel
theorem dX8_wins_38 : decode cX8_wins 38 = .ok (.iload 4, 2) := by decide +kernel
theorem dX8_wins_40 : decode cX8_wins 40 = .ok (.iload 7, 2) := by decide +kernel
theorem dX8_wins_42 : decode cX8_wins 42 = .ok (.isub, 1) := by decide +kernel
theorem dX8_wins_43 : decode cX8_wins 43 = .ok (.goto 4, 3) := by decide +kernel
theorem dX8_wins_46 : decode cX8_wins 46 = .ok (.iconst 0, 1) := by decide +kernel
theorem dX8_wins_47 : decode cX8_wins 47 = .ok (.istore 8, 2) := by decide +kernel
theorem dX8_wins_49 : decode cX8_wins 49 = .ok (.iload_n 1, 1) := by decide +kernel
theorem dX8_wins_50 : decode cX8_wins 50 = .ok (.iload 8, 2) := by decide +kernel
theorem dX8_wins_52 : decode cX8_wins 52 = .ok (.isub, 1) := by decide +kernel
theorem dX8_wins_53 : decode cX8_wins 53 = .ok (.iload 7, 2) := by decide +kernel
theorem dX8_wins_55 : decode cX8_wins 55 = .ok (.isub, 1) := by decide +kernel
theorem dX8_wins_56 : decode cX8_wins 56 = .ok (.aload_n 0, 1) := by decide +kernel
theorem dX8_wins_57 : decode cX8_wins 57 = .ok (.getfield 20, 3) := by decide +kernel
theorem dX8_wins_60 : decode cX8_wins 60 = .ok (.iconst 0, 1) := by decide +kernel
theorem dX8_wins_61 : decode cX8_wins 61 = .ok (.iaload, 1) := by decide +kernel
theorem dX8_wins_62 : decode cX8_wins 62 = .ok (.iadd, 1) := by decide +kernel
theorem dX8_wins_63 : decode cX8_wins 63 = .ok (.iconst 1, 1) := by decide +kernel
theorem dX8_wins_64 : decode cX8_wins 64 = .ok (.iadd, 1) := by decide +kernel
theorem dX8_wins_65 : decode cX8_wins 65 = .ok (.iconst 0, 1) := by decide +kernel
theorem dX8_wins_66 : decode cX8_wins 66 = .ok (.iconst 2, 1) := by decide +kernel
theorem dX8_wins_67 : decode cX8_wins 67 = .ok (.aload_n 0, 1) := by decide +kernel
theorem dX8_wins_68 : decode cX8_wins 68 = .ok (.getfield 20, 3) := by decide +kernel
theorem dX8_wins_71 : decode cX8_wins 71 = .ok (.iconst 0, 1) := by decide +kernel
theorem dX8_wins_72 : decode cX8_wins 72 = .ok (.iaload, 1) := by decide +kernel
theorem dX8_wins_73 : decode cX8_wins 73 = .ok (.imul, 1) := by decide +kernel
theorem dX8_wins_74 : decode cX8_wins 74 = .ok (.iconst 1, 1) := by decide +kernel
theorem dX8_wins_75 : decode cX8_wins 75 = .ok (.iadd, 1) := by decide +kernel
theorem dX8_wins_76 : decode cX8_wins 76 = .ok (.invokestatic 125, 3) := by decide +kernel
theorem dX8_wins_79 : decode cX8_wins 79 = .ok (.istore 9, 2) := by decide +kernel
theorem dX8_wins_81 : decode cX8_wins 81 = .ok (.iload_n 3, 1) := by decide +kernel
theorem dX8_wins_82 : decode cX8_wins 82 = .ok (.iload 6, 2) := by decide +kernel
theorem dX8_wins_84 : decode cX8_wins 84 = .ok (.invokestatic 132, 3) := by decide +kernel
theorem dX8_wins_87 : decode cX8_wins 87 = .ok (.istore 10, 2) := by decide +kernel
theorem dX8_wins_89 : decode cX8_wins 89 = .ok (.iload 5, 2) := by decide +kernel
theorem dX8_wins_91 : decode cX8_wins 91 = .ok (.iload 10, 2) := by decide +kernel
theorem dX8_wins_93 : decode cX8_wins 93 = .ok (.ifCond .eq 7, 3) := by decide +kernel
theorem dX8_wins_96 : decode cX8_wins 96 = .ok (.iconst 0, 1) := by decide +kernel
theorem dX8_wins_97 : decode cX8_wins 97 = .ok (.goto 17, 3) := by decide +kernel
theorem dX8_wins_100 : decode cX8_wins 100 = .ok (.aload_n 0, 1) := by decide +kernel
theorem dX8_wins_101 : decode cX8_wins 101 = .ok (.getfield 32, 3) := by decide +kernel
theorem dX8_wins_104 : decode cX8_wins 104 = .ok (.iconst 2, 1) := by decide +kernel
theorem dX8_wins_105 : decode cX8_wins 105 = .ok (.iload 6, 2) := by decide +kernel
theorem dX8_wins_107 : decode cX8_wins 107 = .ok (.imul, 1) := by decide +kernel
theorem dX8_wins_108 : decode cX8_wins 108 = .ok (.iconst 1, 1) := by decide +kernel
theorem dX8_wins_109 : decode cX8_wins 109 = .ok (.iadd, 1) := by decide +kernel
theorem dX8_wins_110 : decode cX8_wins 110 = .ok (.iaload, 1) := by decide +kernel
theorem dX8_wins_111 : decode cX8_wins 111 = .ok (.iload 9, 2) := by decide +kernel
theorem dX8_wins_113 : decode cX8_wins 113 = .ok (.imul, 1) := by decide +kernel
theorem dX8_wins_114 : decode cX8_wins 114 = .ok (.iadd, 1) := by decide +kernel
theorem dX8_wins_115 : decode cX8_wins 115 = .ok (.istore 5, 2) := by decide +kernel
theorem dX8_wins_117 : decode cX8_wins 117 = .ok (.aload_n 0, 1) := by decide +kernel
theorem dX8_wins_118 : decode cX8_wins 118 = .ok (.iload 4, 2) := by decide +kernel
theorem dX8_wins_120 : decode cX8_wins 120 = .ok (.iload 10, 2) := by decide +kernel
theorem dX8_wins_122 : decode cX8_wins 122 = .ok (.ifCond .eq 14, 3) := by decide +kernel
theorem dX8_wins_125 : decode cX8_wins 125 = .ok (.iload_n 1, 1) := by decide +kernel
theorem dX8_wins_126 : decode cX8_wins 126 = .ok (.aload_n 0, 1) := by decide +kernel
theorem dX8_wins_127 : decode cX8_wins 127 = .ok (.getfield 20, 3) := by decide +kernel
theorem dX8_wins_130 : decode cX8_wins 130 = .ok (.iconst 2, 1) := by decide +kernel
theorem dX8_wins_131 : decode cX8_wins 131 = .ok (.iaload, 1) := by decide +kernel
theorem dX8_wins_132 : decode cX8_wins 132 = .ok (.isub, 1) := by decide +kernel
theorem dX8_wins_133 : decode cX8_wins 133 = .ok (.goto 4, 3) := by decide +kernel
theorem dX8_wins_136 : decode cX8_wins 136 = .ok (.iload_n 1, 1) := by decide +kernel
theorem dX8_wins_137 : decode cX8_wins 137 = .ok (.invokevirtual 148, 3) := by decide +kernel
theorem dX8_wins_140 : decode cX8_wins 140 = .ok (.istore 4, 2) := by decide +kernel
theorem dX8_wins_142 : decode cX8_wins 142 = .ok (.iinc 6 1, 3) := by decide +kernel
theorem dX8_wins_145 : decode cX8_wins 145 = .ok (.goto (-131), 3) := by decide +kernel
theorem dX8_wins_148 : decode cX8_wins 148 = .ok (.iload 5, 2) := by decide +kernel
theorem dX8_wins_150 : decode cX8_wins 150 = .ok (.ireturn, 1) := by decide +kernel
theorem dX8_plan_0 : decode cX8_plan 0 = .ok (.aload_n 0, 1) := by decide +kernel
theorem dX8_plan_1 : decode cX8_plan 1 = .ok (.iconst 0, 1) := by decide +kernel
theorem dX8_plan_2 : decode cX8_plan 2 = .ok (.putfield 57, 3) := by decide +kernel
theorem dX8_plan_5 : decode cX8_plan 5 = .ok (.iload_n 1, 1) := by decide +kernel
theorem dX8_plan_6 : decode cX8_plan 6 = .ok (.iconst 0, 1) := by decide +kernel
theorem dX8_plan_7 : decode cX8_plan 7 = .ok (.sipush 200, 3) := by decide +kernel
theorem dX8_plan_10 : decode cX8_plan 10 = .ok (.invokestatic 61, 3) := by decide +kernel
theorem dX8_plan_13 : decode cX8_plan 13 = .ok (.ifCond .eq 22, 3) := by decide +kernel
theorem dX8_plan_16 : decode cX8_plan 16 = .ok (.iload_n 2, 1) := by decide +kernel
theorem dX8_plan_17 : decode cX8_plan 17 = .ok (.iconst 1, 1) := by decide +kernel
theorem dX8_plan_18 : decode cX8_plan 18 = .ok (.bipush 10, 2) := by decide +kernel
theorem dX8_plan_20 : decode cX8_plan 20 = .ok (.invokestatic 61, 3) := by decide +kernel
theorem dX8_plan_23 : decode cX8_plan 23 = .ok (.ifCond .eq 12, 3) := by decide +kernel
theorem dX8_plan_26 : decode cX8_plan 26 = .ok (.iload_n 3, 1) := by decide +kernel
theorem dX8_plan_27 : decode cX8_plan 27 = .ok (.iconst 0, 1) := by decide +kernel
theorem dX8_plan_28 : decode cX8_plan 28 = .ok (.iconst 2, 1) := by decide +kernel
theorem dX8_plan_29 : decode cX8_plan 29 = .ok (.invokestatic 61, 3) := by decide +kernel
theorem dX8_plan_32 : decode cX8_plan 32 = .ok (.ifCond .ne 5, 3) := by decide +kernel
theorem dX8_plan_35 : decode cX8_plan 35 = .ok (.iconst (-1), 1) := by decide +kernel
theorem dX8_plan_36 : decode cX8_plan 36 = .ok (.ireturn, 1) := by decide +kernel
theorem dX8_plan_37 : decode cX8_plan 37 = .ok (.iconst 0, 1) := by decide +kernel
theorem dX8_plan_38 : decode cX8_plan 38 = .ok (.istore 4, 2) := by decide +kernel
theorem dX8_plan_40 : decode cX8_plan 40 = .ok (.aload_n 0, 1) := by decide +kernel
theorem dX8_plan_41 : decode cX8_plan 41 = .ok (.iload_n 1, 1) := by decide +kernel
theorem dX8_plan_42 : decode cX8_plan 42 = .ok (.iload_n 2, 1) := by decide +kernel
theorem dX8_plan_43 : decode cX8_plan 43 = .ok (.iconst 0, 1) := by decide +kernel
theorem dX8_plan_44 : decode cX8_plan 44 = .ok (.invokevirtual 176, 3) := by decide +kernel
theorem dX8_plan_47 : decode cX8_plan 47 = .ok (.istore 5, 2) := by decide +kernel
theorem dX8_plan_49 : decode cX8_plan 49 = .ok (.iload_n 3, 1) := by decide +kernel
theorem dX8_plan_50 : decode cX8_plan 50 = .ok (.iconst 2, 1) := by decide +kernel
theorem dX8_plan_51 : decode cX8_plan 51 = .ok (.if_icmp .ne 6, 3) := by decide +kernel
theorem dX8_plan_54 : decode cX8_plan 54 = .ok (.iload 5, 2) := by decide +kernel
theorem dX8_plan_56 : decode cX8_plan 56 = .ok (.ireturn, 1) := by decide +kernel
theorem dX8_plan_57 : decode cX8_plan 57 = .ok (.iconst 1, 1) := by decide +kernel
theorem dX8_plan_58 : decode cX8_plan 58 = .ok (.istore 6, 2) := by decide +kernel
theorem dX8_plan_60 : decode cX8_plan 60 = .ok (.iload 6, 2) := by decide +kernel
theorem dX8_plan_62 : decode cX8_plan 62 = .ok (.iconst 1, 1) := by decide +kernel
theorem dX8_plan_63 : decode cX8_plan 63 = .ok (.iload_n 2, 1) := by decide +kernel
theorem dX8_plan_64 : decode cX8_plan 64 = .ok (.ishl, 1) := by decide +kernel
theorem dX8_plan_65 : decode cX8_plan 65 = .ok (.if_icmp .ge 51, 3) := by decide +kernel
theorem dX8_plan_68 : decode cX8_plan 68 = .ok (.aload_n 0, 1) := by decide +kernel
theorem dX8_plan_69 : decode cX8_plan 69 = .ok (.iload_n 1, 1) := by decide +kernel
theorem dX8_plan_70 : decode cX8_plan 70 = .ok (.iload_n 2, 1) := by decide +kernel
theorem dX8_plan_71 : decode cX8_plan 71 = .ok (.iload 6, 2) := by decide +kernel
theorem dX8_plan_73 : decode cX8_plan 73 = .ok (.invokevirtual 176, 3) := by decide +kernel
theorem dX8_plan_76 : decode cX8_plan 76 = .ok (.istore 7, 2) := by decide +kernel
theorem dX8_plan_78 : decode cX8_plan 78 = .ok (.iload 7, 2) := by decide +kernel
theorem dX8_plan_80 : decode cX8_plan 80 = .ok (.iload 5, 2) := by decide +kernel
theorem dX8_plan_82 : decode cX8_plan 82 = .ok (.if_icmp .le 8, 3) := by decide +kernel
theorem dX8_plan_85 : decode cX8_plan 85 = .ok (.iload 6, 2) := by decide +kernel
theorem dX8_plan_87 : decode cX8_plan 87 = .ok (.goto 5, 3) := by decide +kernel
theorem dX8_plan_90 : decode cX8_plan 90 = .ok (.iload 4, 2) := by decide +kernel
theorem dX8_plan_92 : decode cX8_plan 92 = .ok (.istore 4, 2) := by decide +kernel
theorem dX8_plan_94 : decode cX8_plan 94 = .ok (.iload 7, 2) := by decide +kernel
theorem dX8_plan_96 : decode cX8_plan 96 = .ok (.iload 5, 2) := by decide +kernel
theorem dX8_plan_98 : decode cX8_plan 98 = .ok (.if_icmp .le 8, 3) := by decide +kernel
theorem dX8_plan_101 : decode cX8_plan 101 = .ok (.iload 7, 2) := by decide +kernel
theorem dX8_plan_103 : decode cX8_plan 103 = .ok (.goto 5, 3) := by decide +kernel
theorem dX8_plan_106 : decode cX8_plan 106 = .ok (.iload 5, 2) := by decide +kernel
theorem dX8_plan_108 : decode cX8_plan 108 = .ok (.istore 5, 2) := by decide +kernel
theorem dX8_plan_110 : decode cX8_plan 110 = .ok (.iinc 6 1, 3) := by decide +kernel
theorem dX8_plan_113 : decode cX8_plan 113 = .ok (.goto (-53), 3) := by decide +kernel
theorem dX8_plan_116 : decode cX8_plan 116 = .ok (.iload_n 3, 1) := by decide +kernel
theorem dX8_plan_117 : decode cX8_plan 117 = .ok (.ifCond .ne 8, 3) := by decide +kernel
theorem dX8_plan_120 : decode cX8_plan 120 = .ok (.iload 4, 2) := by decide +kernel
theorem dX8_plan_122 : decode cX8_plan 122 = .ok (.goto 5, 3) := by decide +kernel
theorem dX8_plan_125 : decode cX8_plan 125 = .ok (.iload 5, 2) := by decide +kernel
theorem dX8_plan_127 : decode cX8_plan 127 = .ok (.ireturn, 1) := by decide +kernel
theorem dX8_hull_0 : decode cX8_hull 0 = .ok (.aload_n 0, 1) := by decide +kernel
theorem dX8_hull_1 : decode cX8_hull 1 = .ok (.iconst 0, 1) := by decide +kernel
theorem dX8_hull_2 : decode cX8_hull 2 = .ok (.putfield 57, 3) := by decide +kernel
theorem dX8_hull_5 : decode cX8_hull 5 = .ok (.iload_n 1, 1) := by decide +kernel
theorem dX8_hull_6 : decode cX8_hull 6 = .ok (.iconst 0, 1) := by decide +kernel
theorem dX8_hull_7 : decode cX8_hull 7 = .ok (.iconst 5, 1) := by decide +kernel
theorem dX8_hull_8 : decode cX8_hull 8 = .ok (.invokestatic 61, 3) := by decide +kernel
theorem dX8_hull_11 : decode cX8_hull 11 = .ok (.ifCond .eq 14, 3) := by decide +kernel
theorem dX8_hull_14 : decode cX8_hull 14 = .ok (.iload_n 2, 1) := by decide +kernel
theorem dX8_hull_15 : decode cX8_hull 15 = .ok (.bipush (-9), 2) := by decide +kernel
theorem dX8_hull_17 : decode cX8_hull 17 = .ok (.bipush 9, 2) := by decide +kernel
theorem dX8_hull_19 : decode cX8_hull 19 = .ok (.invokestatic 61, 3) := by decide +kernel
theorem dX8_hull_22 : decode cX8_hull 22 = .ok (.ifCond .ne 6, 3) := by decide +kernel
theorem dX8_hull_25 : decode cX8_hull 25 = .ok (.ldc 69, 2) := by decide +kernel
theorem dX8_hull_27 : decode cX8_hull 27 = .ok (.ireturn, 1) := by decide +kernel
theorem dX8_hull_28 : decode cX8_hull 28 = .ok (.aload_n 0, 1) := by decide +kernel
theorem dX8_hull_29 : decode cX8_hull 29 = .ok (.getfield 35, 3) := by decide +kernel
theorem dX8_hull_32 : decode cX8_hull 32 = .ok (.iload_n 1, 1) := by decide +kernel
theorem dX8_hull_33 : decode cX8_hull 33 = .ok (.iaload, 1) := by decide +kernel
theorem dX8_hull_34 : decode cX8_hull 34 = .ok (.istore_n 3, 1) := by decide +kernel
theorem dX8_hull_35 : decode cX8_hull 35 = .ok (.aload_n 0, 1) := by decide +kernel
theorem dX8_hull_36 : decode cX8_hull 36 = .ok (.getfield 35, 3) := by decide +kernel
theorem dX8_hull_39 : decode cX8_hull 39 = .ok (.iload_n 1, 1) := by decide +kernel
theorem dX8_hull_40 : decode cX8_hull 40 = .ok (.iload_n 2, 1) := by decide +kernel
theorem dX8_hull_41 : decode cX8_hull 41 = .ok (.iastore, 1) := by decide +kernel
theorem dX8_hull_42 : decode cX8_hull 42 = .ok (.iload_n 3, 1) := by decide +kernel
theorem dX8_hull_43 : decode cX8_hull 43 = .ok (.ireturn, 1) := by decide +kernel
theorem dX8_beats_0 : decode cX8_beats 0 = .ok (.aload_n 0, 1) := by decide +kernel
theorem dX8_beats_1 : decode cX8_beats 1 = .ok (.iconst 0, 1) := by decide +kernel
theorem dX8_beats_2 : decode cX8_beats 2 = .ok (.putfield 57, 3) := by decide +kernel
theorem dX8_beats_5 : decode cX8_beats 5 = .ok (.iload_n 1, 1) := by decide +kernel
theorem dX8_beats_6 : decode cX8_beats 6 = .ok (.sipush (-500), 3) := by decide +kernel
theorem dX8_beats_9 : decode cX8_beats 9 = .ok (.sipush 500, 3) := by decide +kernel
theorem dX8_beats_12 : decode cX8_beats 12 = .ok (.invokestatic 61, 3) := by decide +kernel
theorem dX8_beats_15 : decode cX8_beats 15 = .ok (.ifCond .eq 12, 3) := by decide +kernel
theorem dX8_beats_18 : decode cX8_beats 18 = .ok (.iload_n 2, 1) := by decide +kernel
theorem dX8_beats_19 : decode cX8_beats 19 = .ok (.iconst 0, 1) := by decide +kernel
theorem dX8_beats_20 : decode cX8_beats 20 = .ok (.iconst 3, 1) := by decide +kernel
theorem dX8_beats_21 : decode cX8_beats 21 = .ok (.invokestatic 61, 3) := by decide +kernel
theorem dX8_beats_24 : decode cX8_beats 24 = .ok (.ifCond .ne 6, 3) := by decide +kernel
theorem dX8_beats_27 : decode cX8_beats 27 = .ok (.ldc 69, 2) := by decide +kernel
theorem dX8_beats_29 : decode cX8_beats 29 = .ok (.ireturn, 1) := by decide +kernel
theorem dX8_beats_30 : decode cX8_beats 30 = .ok (.bipush (-9), 2) := by decide +kernel
theorem dX8_beats_32 : decode cX8_beats 32 = .ok (.istore_n 3, 1) := by decide +kernel
theorem dX8_beats_33 : decode cX8_beats 33 = .ok (.iconst 0, 1) := by decide +kernel
theorem dX8_beats_34 : decode cX8_beats 34 = .ok (.istore 4, 2) := by decide +kernel
theorem dX8_beats_36 : decode cX8_beats 36 = .ok (.iconst 0, 1) := by decide +kernel
theorem dX8_beats_37 : decode cX8_beats 37 = .ok (.istore 5, 2) := by decide +kernel
theorem dX8_beats_39 : decode cX8_beats 39 = .ok (.iload 5, 2) := by decide +kernel
theorem dX8_beats_41 : decode cX8_beats 41 = .ok (.sipush 1728, 3) := by decide +kernel
theorem dX8_beats_44 : decode cX8_beats 44 = .ok (.if_icmp .ge 124, 3) := by decide +kernel
theorem dX8_beats_47 : decode cX8_beats 47 = .ok (.iload 5, 2) := by decide +kernel
theorem dX8_beats_49 : decode cX8_beats 49 = .ok (.sipush 144, 3) := by decide +kernel
theorem dX8_beats_52 : decode cX8_beats 52 = .ok (.idiv, 1) := by decide +kernel
theorem dX8_beats_53 : decode cX8_beats 53 = .ok (.iconst 1, 1) := by decide +kernel
theorem dX8_beats_54 : decode cX8_beats 54 = .ok (.iadd, 1) := by decide +kernel
theorem dX8_beats_55 : decode cX8_beats 55 = .ok (.istore 6, 2) := by decide +kernel
theorem dX8_beats_57 : decode cX8_beats 57 = .ok (.iload 5, 2) := by decide +kernel
theorem dX8_beats_59 : decode cX8_beats 59 = .ok (.bipush 12, 2) := by decide +kernel
theorem dX8_beats_61 : decode cX8_beats 61 = .ok (.idiv, 1) := by decide +kernel
theorem dX8_beats_62 : decode cX8_beats 62 = .ok (.bipush 12, 2) := by decide +kernel
theorem dX8_beats_64 : decode cX8_beats 64 = .ok (.irem, 1) := by decide +kernel
theorem dX8_beats_65 : decode cX8_beats 65 = .ok (.iconst 1, 1) := by decide +kernel
theorem dX8_beats_66 : decode cX8_beats 66 = .ok (.iadd, 1) := by decide +kernel
theorem dX8_beats_67 : decode cX8_beats 67 = .ok (.istore 7, 2) := by decide +kernel
theorem dX8_beats_69 : decode cX8_beats 69 = .ok (.iload 5, 2) := by decide +kernel
theorem dX8_beats_71 : decode cX8_beats 71 = .ok (.bipush 12, 2) := by decide +kernel
theorem dX8_beats_73 : decode cX8_beats 73 = .ok (.irem, 1) := by decide +kernel
theorem dX8_beats_74 : decode cX8_beats 74 = .ok (.iconst 1, 1) := by decide +kernel
theorem dX8_beats_75 : decode cX8_beats 75 = .ok (.iadd, 1) := by decide +kernel
theorem dX8_beats_76 : decode cX8_beats 76 = .ok (.istore 8, 2) := by decide +kernel
theorem dX8_beats_78 : decode cX8_beats 78 = .ok (.aload_n 0, 1) := by decide +kernel
theorem dX8_beats_79 : decode cX8_beats 79 = .ok (.getfield 35, 3) := by decide +kernel
theorem dX8_beats_82 : decode cX8_beats 82 = .ok (.iconst 3, 1) := by decide +kernel
theorem dX8_beats_83 : decode cX8_beats 83 = .ok (.iaload, 1) := by decide +kernel
theorem dX8_beats_84 : decode cX8_beats 84 = .ok (.iload 6, 2) := by decide +kernel
theorem dX8_beats_86 : decode cX8_beats 86 = .ok (.imul, 1) := by decide +kernel
theorem dX8_beats_87 : decode cX8_beats 87 = .ok (.aload_n 0, 1) := by decide +kernel
theorem dX8_beats_88 : decode cX8_beats 88 = .ok (.getfield 35, 3) := by decide +kernel
theorem dX8_beats_91 : decode cX8_beats 91 = .ok (.iconst 4, 1) := by decide +kernel
theorem dX8_beats_92 : decode cX8_beats 92 = .ok (.iaload, 1) := by decide +kernel
theorem dX8_beats_93 : decode cX8_beats 93 = .ok (.iload 7, 2) := by decide +kernel
theorem dX8_beats_95 : decode cX8_beats 95 = .ok (.imul, 1) := by decide +kernel
theorem dX8_beats_96 : decode cX8_beats 96 = .ok (.iadd, 1) := by decide +kernel
theorem dX8_beats_97 : decode cX8_beats 97 = .ok (.aload_n 0, 1) := by decide +kernel
theorem dX8_beats_98 : decode cX8_beats 98 = .ok (.getfield 35, 3) := by decide +kernel
theorem dX8_beats_101 : decode cX8_beats 101 = .ok (.iconst 5, 1) := by decide +kernel
theorem dX8_beats_102 : decode cX8_beats 102 = .ok (.iaload, 1) := by decide +kernel
theorem dX8_beats_103 : decode cX8_beats 103 = .ok (.iload 8, 2) := by decide +kernel
theorem dX8_beats_105 : decode cX8_beats 105 = .ok (.imul, 1) := by decide +kernel
theorem dX8_beats_106 : decode cX8_beats 106 = .ok (.iadd, 1) := by decide +kernel
theorem dX8_beats_107 : decode cX8_beats 107 = .ok (.istore 9, 2) := by decide +kernel
theorem dX8_beats_109 : decode cX8_beats 109 = .ok (.aload_n 0, 1) := by decide +kernel
theorem dX8_beats_110 : decode cX8_beats 110 = .ok (.getfield 35, 3) := by decide +kernel
theorem dX8_beats_113 : decode cX8_beats 113 = .ok (.iconst 0, 1) := by decide +kernel
theorem dX8_beats_114 : decode cX8_beats 114 = .ok (.iaload, 1) := by decide +kernel
theorem dX8_beats_115 : decode cX8_beats 115 = .ok (.iload 6, 2) := by decide +kernel
theorem dX8_beats_117 : decode cX8_beats 117 = .ok (.imul, 1) := by decide +kernel
theorem dX8_beats_118 : decode cX8_beats 118 = .ok (.aload_n 0, 1) := by decide +kernel
theorem dX8_beats_119 : decode cX8_beats 119 = .ok (.getfield 35, 3) := by decide +kernel
theorem dX8_beats_122 : decode cX8_beats 122 = .ok (.iconst 1, 1) := by decide +kernel
theorem dX8_beats_123 : decode cX8_beats 123 = .ok (.iaload, 1) := by decide +kernel
theorem dX8_beats_124 : decode cX8_beats 124 = .ok (.iload 7, 2) := by decide +kernel
theorem dX8_beats_126 : decode cX8_beats 126 = .ok (.imul, 1) := by decide +kernel
theorem dX8_beats_127 : decode cX8_beats 127 = .ok (.iadd, 1) := by decide +kernel
theorem dX8_beats_128 : decode cX8_beats 128 = .ok (.aload_n 0, 1) := by decide +kernel
theorem dX8_beats_129 : decode cX8_beats 129 = .ok (.getfield 35, 3) := by decide +kernel
theorem dX8_beats_132 : decode cX8_beats 132 = .ok (.iconst 2, 1) := by decide +kernel
theorem dX8_beats_133 : decode cX8_beats 133 = .ok (.iaload, 1) := by decide +kernel
theorem dX8_beats_134 : decode cX8_beats 134 = .ok (.iload 8, 2) := by decide +kernel
theorem dX8_beats_136 : decode cX8_beats 136 = .ok (.imul, 1) := by decide +kernel
theorem dX8_beats_137 : decode cX8_beats 137 = .ok (.iadd, 1) := by decide +kernel
theorem dX8_beats_138 : decode cX8_beats 138 = .ok (.iload_n 1, 1) := by decide +kernel
theorem dX8_beats_139 : decode cX8_beats 139 = .ok (.if_icmp .gt 23, 3) := by decide +kernel
theorem dX8_beats_142 : decode cX8_beats 142 = .ok (.iload_n 3, 1) := by decide +kernel
theorem dX8_beats_143 : decode cX8_beats 143 = .ok (.bipush (-9), 2) := by decide +kernel
theorem dX8_beats_145 : decode cX8_beats 145 = .ok (.if_icmp .eq 10, 3) := by decide +kernel
theorem dX8_beats_148 : decode cX8_beats 148 = .ok (.iload 9, 2) := by decide +kernel
theorem dX8_beats_150 : decode cX8_beats 150 = .ok (.iload 4, 2) := by decide +kernel
theorem dX8_beats_152 : decode cX8_beats 152 = .ok (.if_icmp .le 10, 3) := by decide +kernel
theorem dX8_beats_155 : decode cX8_beats 155 = .ok (.iload 5, 2) := by decide +kernel
theorem dX8_beats_157 : decode cX8_beats 157 = .ok (.istore_n 3, 1) := by decide +kernel
theorem dX8_beats_158 : decode cX8_beats 158 = .ok (.iload 9, 2) := by decide +kernel
theorem dX8_beats_160 : decode cX8_beats 160 = .ok (.istore 4, 2) := by decide +kernel
theorem dX8_beats_162 : decode cX8_beats 162 = .ok (.iinc 5 1, 3) := by decide +kernel
theorem dX8_beats_165 : decode cX8_beats 165 = .ok (.goto (-126), 3) := by decide +kernel
theorem dX8_beats_168 : decode cX8_beats 168 = .ok (.iload_n 3, 1) := by decide +kernel
theorem dX8_beats_169 : decode cX8_beats 169 = .ok (.bipush (-9), 2) := by decide +kernel
theorem dX8_beats_171 : decode cX8_beats 171 = .ok (.if_icmp .ne 8, 3) := by decide +kernel
theorem dX8_beats_174 : decode cX8_beats 174 = .ok (.ldc 69, 2) := by decide +kernel
theorem dX8_beats_176 : decode cX8_beats 176 = .ok (.goto 50, 3) := by decide +kernel
theorem dX8_beats_179 : decode cX8_beats 179 = .ok (.iload_n 2, 1) := by decide +kernel
theorem dX8_beats_180 : decode cX8_beats 180 = .ok (.ifCond .ne 13, 3) := by decide +kernel
theorem dX8_beats_183 : decode cX8_beats 183 = .ok (.iload_n 3, 1) := by decide +kernel
theorem dX8_beats_184 : decode cX8_beats 184 = .ok (.sipush 144, 3) := by decide +kernel
theorem dX8_beats_187 : decode cX8_beats 187 = .ok (.idiv, 1) := by decide +kernel
theorem dX8_beats_188 : decode cX8_beats 188 = .ok (.iconst 1, 1) := by decide +kernel
theorem dX8_beats_189 : decode cX8_beats 189 = .ok (.iadd, 1) := by decide +kernel
theorem dX8_beats_190 : decode cX8_beats 190 = .ok (.goto 36, 3) := by decide +kernel
theorem dX8_beats_193 : decode cX8_beats 193 = .ok (.iload_n 2, 1) := by decide +kernel
theorem dX8_beats_194 : decode cX8_beats 194 = .ok (.iconst 1, 1) := by decide +kernel
theorem dX8_beats_195 : decode cX8_beats 195 = .ok (.if_icmp .ne 15, 3) := by decide +kernel
theorem dX8_beats_198 : decode cX8_beats 198 = .ok (.iload_n 3, 1) := by decide +kernel
theorem dX8_beats_199 : decode cX8_beats 199 = .ok (.bipush 12, 2) := by decide +kernel
theorem dX8_beats_201 : decode cX8_beats 201 = .ok (.idiv, 1) := by decide +kernel
theorem dX8_beats_202 : decode cX8_beats 202 = .ok (.bipush 12, 2) := by decide +kernel
theorem dX8_beats_204 : decode cX8_beats 204 = .ok (.irem, 1) := by decide +kernel
theorem dX8_beats_205 : decode cX8_beats 205 = .ok (.iconst 1, 1) := by decide +kernel
theorem dX8_beats_206 : decode cX8_beats 206 = .ok (.iadd, 1) := by decide +kernel
theorem dX8_beats_207 : decode cX8_beats 207 = .ok (.goto 19, 3) := by decide +kernel
theorem dX8_beats_210 : decode cX8_beats 210 = .ok (.iload_n 2, 1) := by decide +kernel
theorem dX8_beats_211 : decode cX8_beats 211 = .ok (.iconst 2, 1) := by decide +kernel
theorem dX8_beats_212 : decode cX8_beats 212 = .ok (.if_icmp .ne 12, 3) := by decide +kernel
theorem dX8_beats_215 : decode cX8_beats 215 = .ok (.iload_n 3, 1) := by decide +kernel
theorem dX8_beats_216 : decode cX8_beats 216 = .ok (.bipush 12, 2) := by decide +kernel
theorem dX8_beats_218 : decode cX8_beats 218 = .ok (.irem, 1) := by decide +kernel
theorem dX8_beats_219 : decode cX8_beats 219 = .ok (.iconst 1, 1) := by decide +kernel
theorem dX8_beats_220 : decode cX8_beats 220 = .ok (.iadd, 1) := by decide +kernel
theorem dX8_beats_221 : decode cX8_beats 221 = .ok (.goto 5, 3) := by decide +kernel
theorem dX8_beats_224 : decode cX8_beats 224 = .ok (.iload 4, 2) := by decide +kernel
theorem dX8_beats_226 : decode cX8_beats 226 = .ok (.ireturn, 1) := by decide +kernel
theorem dX8_reading_0 : decode cX8_reading 0 = .ok (.aload_n 0, 1) := by decide +kernel
theorem dX8_reading_1 : decode cX8_reading 1 = .ok (.iconst 0, 1) := by decide +kernel
theorem dX8_reading_2 : decode cX8_reading 2 = .ok (.putfield 57, 3) := by decide +kernel
theorem dX8_reading_5 : decode cX8_reading 5 = .ok (.iload_n 1, 1) := by decide +kernel
theorem dX8_reading_6 : decode cX8_reading 6 = .ok (.iconst 0, 1) := by decide +kernel
theorem dX8_reading_7 : decode cX8_reading 7 = .ok (.bipush 6, 2) := by decide +kernel
theorem dX8_reading_9 : decode cX8_reading 9 = .ok (.invokestatic 61, 3) := by decide +kernel
theorem dX8_reading_12 : decode cX8_reading 12 = .ok (.ifCond .eq 11, 3) := by decide +kernel
theorem dX8_reading_15 : decode cX8_reading 15 = .ok (.aload_n 0, 1) := by decide +kernel
theorem dX8_reading_16 : decode cX8_reading 16 = .ok (.iload_n 2, 1) := by decide +kernel
theorem dX8_reading_17 : decode cX8_reading 17 = .ok (.invokevirtual 65, 3) := by decide +kernel
theorem dX8_reading_20 : decode cX8_reading 20 = .ok (.ifCond .ne 6, 3) := by decide +kernel
theorem dX8_reading_23 : decode cX8_reading 23 = .ok (.ldc 69, 2) := by decide +kernel
theorem dX8_reading_25 : decode cX8_reading 25 = .ok (.ireturn, 1) := by decide +kernel
theorem dX8_reading_26 : decode cX8_reading 26 = .ok (.aload_n 0, 1) := by decide +kernel
theorem dX8_reading_27 : decode cX8_reading 27 = .ok (.getfield 7, 3) := by decide +kernel
theorem dX8_reading_30 : decode cX8_reading 30 = .ok (.bipush 21, 2) := by decide +kernel
theorem dX8_reading_32 : decode cX8_reading 32 = .ok (.iload_n 2, 1) := by decide +kernel
theorem dX8_reading_33 : decode cX8_reading 33 = .ok (.imul, 1) := by decide +kernel
theorem dX8_reading_34 : decode cX8_reading 34 = .ok (.iconst 1, 1) := by decide +kernel
theorem dX8_reading_35 : decode cX8_reading 35 = .ok (.iadd, 1) := by decide +kernel
theorem dX8_reading_36 : decode cX8_reading 36 = .ok (.iaload, 1) := by decide +kernel
theorem dX8_reading_37 : decode cX8_reading 37 = .ok (.istore_n 3, 1) := by decide +kernel
theorem dX8_reading_38 : decode cX8_reading 38 = .ok (.iload_n 3, 1) := by decide +kernel
theorem dX8_reading_39 : decode cX8_reading 39 = .ok (.aload_n 0, 1) := by decide +kernel
theorem dX8_reading_40 : decode cX8_reading 40 = .ok (.getfield 20, 3) := by decide +kernel
theorem dX8_reading_43 : decode cX8_reading 43 = .ok (.iconst 1, 1) := by decide +kernel
theorem dX8_reading_44 : decode cX8_reading 44 = .ok (.iaload, 1) := by decide +kernel
theorem dX8_reading_45 : decode cX8_reading 45 = .ok (.iadd, 1) := by decide +kernel
theorem dX8_reading_46 : decode cX8_reading 46 = .ok (.istore 4, 2) := by decide +kernel
theorem dX8_reading_48 : decode cX8_reading 48 = .ok (.iconst 2, 1) := by decide +kernel
theorem dX8_reading_49 : decode cX8_reading 49 = .ok (.iload 4, 2) := by decide +kernel
theorem dX8_reading_51 : decode cX8_reading 51 = .ok (.imul, 1) := by decide +kernel
theorem dX8_reading_52 : decode cX8_reading 52 = .ok (.aload_n 0, 1) := by decide +kernel
theorem dX8_reading_53 : decode cX8_reading 53 = .ok (.getfield 20, 3) := by decide +kernel
theorem dX8_reading_56 : decode cX8_reading 56 = .ok (.iconst 2, 1) := by decide +kernel
theorem dX8_reading_57 : decode cX8_reading 57 = .ok (.iaload, 1) := by decide +kernel
theorem dX8_reading_58 : decode cX8_reading 58 = .ok (.isub, 1) := by decide +kernel
theorem dX8_reading_59 : decode cX8_reading 59 = .ok (.istore 5, 2) := by decide +kernel
theorem dX8_reading_61 : decode cX8_reading 61 = .ok (.aload_n 0, 1) := by decide +kernel
theorem dX8_reading_62 : decode cX8_reading 62 = .ok (.dup, 1) := by decide +kernel
theorem dX8_reading_63 : decode cX8_reading 63 = .ok (.getfield 179, 3) := by decide +kernel
theorem dX8_reading_66 : decode cX8_reading 66 = .ok (.iload_n 1, 1) := by decide +kernel
theorem dX8_reading_67 : decode cX8_reading 67 = .ok (.ifCond .ne 7, 3) := by decide +kernel
theorem dX8_reading_70 : decode cX8_reading 70 = .ok (.lconst 1, 1) := by decide +kernel
theorem dX8_reading_71 : decode cX8_reading 71 = .ok (.goto 61, 3) := by decide +kernel
theorem dX8_reading_74 : decode cX8_reading 74 = .ok (.iload_n 1, 1) := by decide +kernel
theorem dX8_reading_75 : decode cX8_reading 75 = .ok (.iconst 1, 1) := by decide +kernel
theorem dX8_reading_76 : decode cX8_reading 76 = .ok (.if_icmp .ne 9, 3) := by decide +kernel
theorem dX8_reading_79 : decode cX8_reading 79 = .ok (.ldc2_w 182, 3) := by decide +kernel
theorem dX8_reading_82 : decode cX8_reading 82 = .ok (.goto 50, 3) := by decide +kernel
theorem dX8_reading_85 : decode cX8_reading 85 = .ok (.iload_n 1, 1) := by decide +kernel
theorem dX8_reading_86 : decode cX8_reading 86 = .ok (.iconst 2, 1) := by decide +kernel
theorem dX8_reading_87 : decode cX8_reading 87 = .ok (.if_icmp .ne 9, 3) := by decide +kernel
theorem dX8_reading_90 : decode cX8_reading 90 = .ok (.ldc2_w 184, 3) := by decide +kernel
theorem dX8_reading_93 : decode cX8_reading 93 = .ok (.goto 39, 3) := by decide +kernel
theorem dX8_reading_96 : decode cX8_reading 96 = .ok (.iload_n 1, 1) := by decide +kernel
theorem dX8_reading_97 : decode cX8_reading 97 = .ok (.iconst 3, 1) := by decide +kernel
theorem dX8_reading_98 : decode cX8_reading 98 = .ok (.if_icmp .ne 9, 3) := by decide +kernel
theorem dX8_reading_101 : decode cX8_reading 101 = .ok (.ldc2_w 186, 3) := by decide +kernel
theorem dX8_reading_104 : decode cX8_reading 104 = .ok (.goto 28, 3) := by decide +kernel
theorem dX8_reading_107 : decode cX8_reading 107 = .ok (.iload_n 1, 1) := by decide +kernel
theorem dX8_reading_108 : decode cX8_reading 108 = .ok (.iconst 4, 1) := by decide +kernel
theorem dX8_reading_109 : decode cX8_reading 109 = .ok (.if_icmp .ne 9, 3) := by decide +kernel
theorem dX8_reading_112 : decode cX8_reading 112 = .ok (.ldc2_w 188, 3) := by decide +kernel
theorem dX8_reading_115 : decode cX8_reading 115 = .ok (.goto 17, 3) := by decide +kernel
theorem dX8_reading_118 : decode cX8_reading 118 = .ok (.iload_n 1, 1) := by decide +kernel
theorem dX8_reading_119 : decode cX8_reading 119 = .ok (.iconst 5, 1) := by decide +kernel
theorem dX8_reading_120 : decode cX8_reading 120 = .ok (.if_icmp .ne 9, 3) := by decide +kernel
theorem dX8_reading_123 : decode cX8_reading 123 = .ok (.ldc2_w 190, 3) := by decide +kernel
theorem dX8_reading_126 : decode cX8_reading 126 = .ok (.goto 6, 3) := by decide +kernel
theorem dX8_reading_129 : decode cX8_reading 129 = .ok (.ldc2_w 192, 3) := by decide +kernel
theorem dX8_reading_132 : decode cX8_reading 132 = .ok (.ladd, 1) := by decide +kernel
theorem dX8_reading_133 : decode cX8_reading 133 = .ok (.putfield 179, 3) := by decide +kernel
theorem dX8_reading_136 : decode cX8_reading 136 = .ok (.iload_n 1, 1) := by decide +kernel
theorem dX8_reading_137 : decode cX8_reading 137 = .ok (.ifCond .ne 7, 3) := by decide +kernel
theorem dX8_reading_140 : decode cX8_reading 140 = .ok (.iload_n 3, 1) := by decide +kernel
theorem dX8_reading_141 : decode cX8_reading 141 = .ok (.goto 87, 3) := by decide +kernel
theorem dX8_reading_144 : decode cX8_reading 144 = .ok (.iload_n 1, 1) := by decide +kernel
theorem dX8_reading_145 : decode cX8_reading 145 = .ok (.iconst 1, 1) := by decide +kernel
theorem dX8_reading_146 : decode cX8_reading 146 = .ok (.if_icmp .ne 14, 3) := by decide +kernel
theorem dX8_reading_149 : decode cX8_reading 149 = .ok (.iload_n 3, 1) := by decide +kernel
theorem dX8_reading_150 : decode cX8_reading 150 = .ok (.aload_n 0, 1) := by decide +kernel
theorem dX8_reading_151 : decode cX8_reading 151 = .ok (.getfield 20, 3) := by decide +kernel
theorem dX8_reading_154 : decode cX8_reading 154 = .ok (.iconst 0, 1) := by decide +kernel
theorem dX8_reading_155 : decode cX8_reading 155 = .ok (.iaload, 1) := by decide +kernel
theorem dX8_reading_156 : decode cX8_reading 156 = .ok (.iadd, 1) := by decide +kernel
theorem dX8_reading_157 : decode cX8_reading 157 = .ok (.goto 71, 3) := by decide +kernel
theorem dX8_reading_160 : decode cX8_reading 160 = .ok (.iload_n 1, 1) := by decide +kernel
theorem dX8_reading_161 : decode cX8_reading 161 = .ok (.iconst 2, 1) := by decide +kernel
theorem dX8_reading_162 : decode cX8_reading 162 = .ok (.if_icmp .ne 8, 3) := by decide +kernel
theorem dX8_reading_165 : decode cX8_reading 165 = .ok (.iload 4, 2) := by decide +kernel
theorem dX8_reading_167 : decode cX8_reading 167 = .ok (.goto 61, 3) := by decide +kernel
theorem dX8_reading_170 : decode cX8_reading 170 = .ok (.iload_n 1, 1) := by decide +kernel
theorem dX8_reading_171 : decode cX8_reading 171 = .ok (.iconst 3, 1) := by decide +kernel
theorem dX8_reading_172 : decode cX8_reading 172 = .ok (.if_icmp .ne 8, 3) := by decide +kernel
theorem dX8_reading_175 : decode cX8_reading 175 = .ok (.iload 5, 2) := by decide +kernel
theorem dX8_reading_177 : decode cX8_reading 177 = .ok (.goto 51, 3) := by decide +kernel
theorem dX8_reading_180 : decode cX8_reading 180 = .ok (.iload_n 1, 1) := by decide +kernel
theorem dX8_reading_181 : decode cX8_reading 181 = .ok (.iconst 4, 1) := by decide +kernel
theorem dX8_reading_182 : decode cX8_reading 182 = .ok (.if_icmp .ne 19, 3) := by decide +kernel
theorem dX8_reading_185 : decode cX8_reading 185 = .ok (.iload_n 3, 1) := by decide +kernel
theorem dX8_reading_186 : decode cX8_reading 186 = .ok (.aload_n 0, 1) := by decide +kernel
theorem dX8_reading_187 : decode cX8_reading 187 = .ok (.getfield 7, 3) := by decide +kernel
theorem dX8_reading_190 : decode cX8_reading 190 = .ok (.bipush 21, 2) := by decide +kernel
theorem dX8_reading_192 : decode cX8_reading 192 = .ok (.iload_n 2, 1) := by decide +kernel
theorem dX8_reading_193 : decode cX8_reading 193 = .ok (.imul, 1) := by decide +kernel
theorem dX8_reading_194 : decode cX8_reading 194 = .ok (.iconst 4, 1) := by decide +kernel
theorem dX8_reading_195 : decode cX8_reading 195 = .ok (.iadd, 1) := by decide +kernel
theorem dX8_reading_196 : decode cX8_reading 196 = .ok (.iaload, 1) := by decide +kernel
theorem dX8_reading_197 : decode cX8_reading 197 = .ok (.iadd, 1) := by decide +kernel
theorem dX8_reading_198 : decode cX8_reading 198 = .ok (.goto 30, 3) := by decide +kernel
theorem dX8_reading_201 : decode cX8_reading 201 = .ok (.iload_n 1, 1) := by decide +kernel
theorem dX8_reading_202 : decode cX8_reading 202 = .ok (.iconst 5, 1) := by decide +kernel
theorem dX8_reading_203 : decode cX8_reading 203 = .ok (.if_icmp .ne 21, 3) := by decide +kernel
theorem dX8_reading_206 : decode cX8_reading 206 = .ok (.iload_n 3, 1) := by decide +kernel
theorem dX8_reading_207 : decode cX8_reading 207 = .ok (.iconst 5, 1) := by decide +kernel
theorem dX8_reading_208 : decode cX8_reading 208 = .ok (.aload_n 0, 1) := by decide +kernel
theorem dX8_reading_209 : decode cX8_reading 209 = .ok (.getfield 7, 3) := by decide +kernel
theorem dX8_reading_212 : decode cX8_reading 212 = .ok (.bipush 21, 2) := by decide +kernel
theorem dX8_reading_214 : decode cX8_reading 214 = .ok (.iload_n 2, 1) := by decide +kernel
theorem dX8_reading_215 : decode cX8_reading 215 = .ok (.imul, 1) := by decide +kernel
theorem dX8_reading_216 : decode cX8_reading 216 = .ok (.iconst 3, 1) := by decide +kernel
theorem dX8_reading_217 : decode cX8_reading 217 = .ok (.iadd, 1) := by decide +kernel
theorem dX8_reading_218 : decode cX8_reading 218 = .ok (.iaload, 1) := by decide +kernel
theorem dX8_reading_219 : decode cX8_reading 219 = .ok (.imul, 1) := by decide +kernel
theorem dX8_reading_220 : decode cX8_reading 220 = .ok (.iadd, 1) := by decide +kernel
theorem dX8_reading_221 : decode cX8_reading 221 = .ok (.goto 7, 3) := by decide +kernel
theorem dX8_reading_224 : decode cX8_reading 224 = .ok (.iload 5, 2) := by decide +kernel
theorem dX8_reading_226 : decode cX8_reading 226 = .ok (.iconst 2, 1) := by decide +kernel
theorem dX8_reading_227 : decode cX8_reading 227 = .ok (.idiv, 1) := by decide +kernel
theorem dX8_reading_228 : decode cX8_reading 228 = .ok (.ireturn, 1) := by decide +kernel
theorem dX8_keep_0 : decode cX8_keep 0 = .ok (.aload_n 0, 1) := by decide +kernel
theorem dX8_keep_1 : decode cX8_keep 1 = .ok (.iconst 0, 1) := by decide +kernel
theorem dX8_keep_2 : decode cX8_keep 2 = .ok (.putfield 57, 3) := by decide +kernel
theorem dX8_keep_5 : decode cX8_keep 5 = .ok (.iload_n 1, 1) := by decide +kernel
theorem dX8_keep_6 : decode cX8_keep 6 = .ok (.iconst 0, 1) := by decide +kernel
theorem dX8_keep_7 : decode cX8_keep 7 = .ok (.iconst 1, 1) := by decide +kernel
theorem dX8_keep_8 : decode cX8_keep 8 = .ok (.invokestatic 61, 3) := by decide +kernel
theorem dX8_keep_11 : decode cX8_keep 11 = .ok (.ifCond .ne 5, 3) := by decide +kernel
theorem dX8_keep_14 : decode cX8_keep 14 = .ok (.iconst (-1), 1) := by decide +kernel
theorem dX8_keep_15 : decode cX8_keep 15 = .ok (.ireturn, 1) := by decide +kernel
theorem dX8_keep_16 : decode cX8_keep 16 = .ok (.iconst 0, 1) := by decide +kernel
theorem dX8_keep_17 : decode cX8_keep 17 = .ok (.istore_n 2, 1) := by decide +kernel
theorem dX8_keep_18 : decode cX8_keep 18 = .ok (.iload_n 2, 1) := by decide +kernel
theorem dX8_keep_19 : decode cX8_keep 19 = .ok (.sipush 171, 3) := by decide +kernel
theorem dX8_keep_22 : decode cX8_keep 22 = .ok (.if_icmp .ge 27, 3) := by decide +kernel
theorem dX8_keep_25 : decode cX8_keep 25 = .ok (.aload_n 0, 1) := by decide +kernel
theorem dX8_keep_26 : decode cX8_keep 26 = .ok (.getfield 13, 3) := by decide +kernel
theorem dX8_keep_29 : decode cX8_keep 29 = .ok (.sipush 171, 3) := by decide +kernel
theorem dX8_keep_32 : decode cX8_keep 32 = .ok (.iload_n 1, 1) := by decide +kernel
theorem dX8_keep_33 : decode cX8_keep 33 = .ok (.imul, 1) := by decide +kernel
theorem dX8_keep_34 : decode cX8_keep 34 = .ok (.iload_n 2, 1) := by decide +kernel
theorem dX8_keep_35 : decode cX8_keep 35 = .ok (.iadd, 1) := by decide +kernel
theorem dX8_keep_36 : decode cX8_keep 36 = .ok (.aload_n 0, 1) := by decide +kernel
theorem dX8_keep_37 : decode cX8_keep 37 = .ok (.getfield 7, 3) := by decide +kernel
theorem dX8_keep_40 : decode cX8_keep 40 = .ok (.iload_n 2, 1) := by decide +kernel
theorem dX8_keep_41 : decode cX8_keep 41 = .ok (.iaload, 1) := by decide +kernel
theorem dX8_keep_42 : decode cX8_keep 42 = .ok (.iastore, 1) := by decide +kernel
theorem dX8_keep_43 : decode cX8_keep 43 = .ok (.iinc 2 1, 3) := by decide +kernel
theorem dX8_keep_46 : decode cX8_keep 46 = .ok (.goto (-28), 3) := by decide +kernel
theorem dX8_keep_49 : decode cX8_keep 49 = .ok (.aload_n 0, 1) := by decide +kernel
theorem dX8_keep_50 : decode cX8_keep 50 = .ok (.getfield 16, 3) := by decide +kernel
theorem dX8_keep_53 : decode cX8_keep 53 = .ok (.iload_n 1, 1) := by decide +kernel
theorem dX8_keep_54 : decode cX8_keep 54 = .ok (.iconst 1, 1) := by decide +kernel
theorem dX8_keep_55 : decode cX8_keep 55 = .ok (.bastore, 1) := by decide +kernel
theorem dX8_keep_56 : decode cX8_keep 56 = .ok (.aload_n 0, 1) := by decide +kernel
theorem dX8_keep_57 : decode cX8_keep 57 = .ok (.getfield 7, 3) := by decide +kernel
theorem dX8_keep_60 : decode cX8_keep 60 = .ok (.sipush 170, 3) := by decide +kernel
theorem dX8_keep_63 : decode cX8_keep 63 = .ok (.iaload, 1) := by decide +kernel
theorem dX8_keep_64 : decode cX8_keep 64 = .ok (.ireturn, 1) := by decide +kernel
theorem dX8_back_0 : decode cX8_back 0 = .ok (.aload_n 0, 1) := by decide +kernel
theorem dX8_back_1 : decode cX8_back 1 = .ok (.iconst 0, 1) := by decide +kernel
theorem dX8_back_2 : decode cX8_back 2 = .ok (.putfield 57, 3) := by decide +kernel
theorem dX8_back_5 : decode cX8_back 5 = .ok (.iload_n 1, 1) := by decide +kernel
theorem dX8_back_6 : decode cX8_back 6 = .ok (.iconst 0, 1) := by decide +kernel
theorem dX8_back_7 : decode cX8_back 7 = .ok (.iconst 1, 1) := by decide +kernel
theorem dX8_back_8 : decode cX8_back 8 = .ok (.invokestatic 61, 3) := by decide +kernel
theorem dX8_back_11 : decode cX8_back 11 = .ok (.ifCond .ne 5, 3) := by decide +kernel
theorem dX8_back_14 : decode cX8_back 14 = .ok (.iconst (-1), 1) := by decide +kernel
theorem dX8_back_15 : decode cX8_back 15 = .ok (.ireturn, 1) := by decide +kernel
theorem dX8_back_16 : decode cX8_back 16 = .ok (.aload_n 0, 1) := by decide +kernel
theorem dX8_back_17 : decode cX8_back 17 = .ok (.getfield 16, 3) := by decide +kernel
theorem dX8_back_20 : decode cX8_back 20 = .ok (.iload_n 1, 1) := by decide +kernel
theorem dX8_back_21 : decode cX8_back 21 = .ok (.baload, 1) := by decide +kernel
theorem dX8_back_22 : decode cX8_back 22 = .ok (.ifCond .ne 6, 3) := by decide +kernel
theorem dX8_back_25 : decode cX8_back 25 = .ok (.bipush (-2), 2) := by decide +kernel
theorem dX8_back_27 : decode cX8_back 27 = .ok (.ireturn, 1) := by decide +kernel
theorem dX8_back_28 : decode cX8_back 28 = .ok (.iconst 0, 1) := by decide +kernel
theorem dX8_back_29 : decode cX8_back 29 = .ok (.istore_n 2, 1) := by decide +kernel
theorem dX8_back_30 : decode cX8_back 30 = .ok (.iload_n 2, 1) := by decide +kernel
theorem dX8_back_31 : decode cX8_back 31 = .ok (.sipush 171, 3) := by decide +kernel
theorem dX8_back_34 : decode cX8_back 34 = .ok (.if_icmp .ge 27, 3) := by decide +kernel
theorem dX8_back_37 : decode cX8_back 37 = .ok (.aload_n 0, 1) := by decide +kernel
theorem dX8_back_38 : decode cX8_back 38 = .ok (.getfield 7, 3) := by decide +kernel
theorem dX8_back_41 : decode cX8_back 41 = .ok (.iload_n 2, 1) := by decide +kernel
theorem dX8_back_42 : decode cX8_back 42 = .ok (.aload_n 0, 1) := by decide +kernel
theorem dX8_back_43 : decode cX8_back 43 = .ok (.getfield 13, 3) := by decide +kernel
theorem dX8_back_46 : decode cX8_back 46 = .ok (.sipush 171, 3) := by decide +kernel
theorem dX8_back_49 : decode cX8_back 49 = .ok (.iload_n 1, 1) := by decide +kernel
theorem dX8_back_50 : decode cX8_back 50 = .ok (.imul, 1) := by decide +kernel
theorem dX8_back_51 : decode cX8_back 51 = .ok (.iload_n 2, 1) := by decide +kernel
theorem dX8_back_52 : decode cX8_back 52 = .ok (.iadd, 1) := by decide +kernel
theorem dX8_back_53 : decode cX8_back 53 = .ok (.iaload, 1) := by decide +kernel
theorem dX8_back_54 : decode cX8_back 54 = .ok (.iastore, 1) := by decide +kernel
theorem dX8_back_55 : decode cX8_back 55 = .ok (.iinc 2 1, 3) := by decide +kernel
theorem dX8_back_58 : decode cX8_back 58 = .ok (.goto (-28), 3) := by decide +kernel
theorem dX8_back_61 : decode cX8_back 61 = .ok (.aload_n 0, 1) := by decide +kernel
theorem dX8_back_62 : decode cX8_back 62 = .ok (.iconst 0, 1) := by decide +kernel
theorem dX8_back_63 : decode cX8_back 63 = .ok (.putfield 151, 3) := by decide +kernel
theorem dX8_back_66 : decode cX8_back 66 = .ok (.aload_n 0, 1) := by decide +kernel
theorem dX8_back_67 : decode cX8_back 67 = .ok (.getfield 7, 3) := by decide +kernel
theorem dX8_back_70 : decode cX8_back 70 = .ok (.sipush 170, 3) := by decide +kernel
theorem dX8_back_73 : decode cX8_back 73 = .ok (.iaload, 1) := by decide +kernel
theorem dX8_back_74 : decode cX8_back 74 = .ok (.ireturn, 1) := by decide +kernel
theorem dX8_count_0 : decode cX8_count 0 = .ok (.aload_n 0, 1) := by decide +kernel
theorem dX8_count_1 : decode cX8_count 1 = .ok (.iconst 0, 1) := by decide +kernel
theorem dX8_count_2 : decode cX8_count 2 = .ok (.putfield 57, 3) := by decide +kernel
theorem dX8_count_5 : decode cX8_count 5 = .ok (.iload_n 1, 1) := by decide +kernel
theorem dX8_count_6 : decode cX8_count 6 = .ok (.ifCond .ne 14, 3) := by decide +kernel
theorem dX8_count_9 : decode cX8_count 9 = .ok (.aload_n 0, 1) := by decide +kernel
theorem dX8_count_10 : decode cX8_count 10 = .ok (.getfield 7, 3) := by decide +kernel
theorem dX8_count_13 : decode cX8_count 13 = .ok (.sipush 168, 3) := by decide +kernel
theorem dX8_count_16 : decode cX8_count 16 = .ok (.iaload, 1) := by decide +kernel
theorem dX8_count_17 : decode cX8_count 17 = .ok (.goto 49, 3) := by decide +kernel
theorem dX8_count_20 : decode cX8_count 20 = .ok (.iload_n 1, 1) := by decide +kernel
theorem dX8_count_21 : decode cX8_count 21 = .ok (.iconst 1, 1) := by decide +kernel
theorem dX8_count_22 : decode cX8_count 22 = .ok (.if_icmp .ne 14, 3) := by decide +kernel
theorem dX8_count_25 : decode cX8_count 25 = .ok (.aload_n 0, 1) := by decide +kernel
theorem dX8_count_26 : decode cX8_count 26 = .ok (.getfield 7, 3) := by decide +kernel
theorem dX8_count_29 : decode cX8_count 29 = .ok (.sipush 170, 3) := by decide +kernel
theorem dX8_count_32 : decode cX8_count 32 = .ok (.iaload, 1) := by decide +kernel
theorem dX8_count_33 : decode cX8_count 33 = .ok (.goto 33, 3) := by decide +kernel
theorem dX8_count_36 : decode cX8_count 36 = .ok (.iload_n 1, 1) := by decide +kernel
theorem dX8_count_37 : decode cX8_count 37 = .ok (.iconst 2, 1) := by decide +kernel
theorem dX8_count_38 : decode cX8_count 38 = .ok (.if_icmp .ne 10, 3) := by decide +kernel
theorem dX8_count_41 : decode cX8_count 41 = .ok (.aload_n 0, 1) := by decide +kernel
theorem dX8_count_42 : decode cX8_count 42 = .ok (.getfield 70, 3) := by decide +kernel
theorem dX8_count_45 : decode cX8_count 45 = .ok (.goto 21, 3) := by decide +kernel
theorem dX8_count_48 : decode cX8_count 48 = .ok (.iload_n 1, 1) := by decide +kernel
theorem dX8_count_49 : decode cX8_count 49 = .ok (.iconst 3, 1) := by decide +kernel
theorem dX8_count_50 : decode cX8_count 50 = .ok (.if_icmp .ne 14, 3) := by decide +kernel
theorem dX8_count_53 : decode cX8_count 53 = .ok (.aload_n 0, 1) := by decide +kernel
theorem dX8_count_54 : decode cX8_count 54 = .ok (.getfield 7, 3) := by decide +kernel
theorem dX8_count_57 : decode cX8_count 57 = .ok (.sipush 169, 3) := by decide +kernel
theorem dX8_count_60 : decode cX8_count 60 = .ok (.iaload, 1) := by decide +kernel
theorem dX8_count_61 : decode cX8_count 61 = .ok (.goto 5, 3) := by decide +kernel
theorem dX8_count_64 : decode cX8_count 64 = .ok (.ldc 69, 2) := by decide +kernel
theorem dX8_count_66 : decode cX8_count 66 = .ok (.ireturn, 1) := by decide +kernel
theorem dX8_trace_0 : decode cX8_trace 0 = .ok (.aload_n 0, 1) := by decide +kernel
theorem dX8_trace_1 : decode cX8_trace 1 = .ok (.iconst 0, 1) := by decide +kernel
theorem dX8_trace_2 : decode cX8_trace 2 = .ok (.putfield 57, 3) := by decide +kernel
theorem dX8_trace_5 : decode cX8_trace 5 = .ok (.aload_n 0, 1) := by decide +kernel
theorem dX8_trace_6 : decode cX8_trace 6 = .ok (.getfield 179, 3) := by decide +kernel
theorem dX8_trace_9 : decode cX8_trace 9 = .ok (.lreturn, 1) := by decide +kernel
