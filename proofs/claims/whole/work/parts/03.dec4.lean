theorem d_M_look_344 : decode b_M_look 344 = .ok (.iadd, 1) := by decide +kernel
theorem d_M_look_345 : decode b_M_look 345 = .ok (.invokevirtual 187, 3) := by decide +kernel
theorem d_M_look_348 : decode b_M_look 348 = .ok (.goto 84, 3) := by decide +kernel
theorem d_M_look_351 : decode b_M_look 351 = .ok (.aload_n 0, 1) := by decide +kernel
theorem d_M_look_352 : decode b_M_look 352 = .ok (.iload_n 2, 1) := by decide +kernel
theorem d_M_look_353 : decode b_M_look 353 = .ok (.iload_n 3, 1) := by decide +kernel
theorem d_M_look_354 : decode b_M_look 354 = .ok (.aload_n 0, 1) := by decide +kernel
theorem d_M_look_355 : decode b_M_look 355 = .ok (.getfield 100, 3) := by decide +kernel
theorem d_M_look_358 : decode b_M_look 358 = .ok (.iload 6, 2) := by decide +kernel
theorem d_M_look_360 : decode b_M_look 360 = .ok (.baload, 1) := by decide +kernel
theorem d_M_look_361 : decode b_M_look 361 = .ok (.ifCond .ne 13, 3) := by decide +kernel
theorem d_M_look_364 : decode b_M_look 364 = .ok (.aload_n 0, 1) := by decide +kernel
theorem d_M_look_365 : decode b_M_look 365 = .ok (.getfield 100, 3) := by decide +kernel
theorem d_M_look_368 : decode b_M_look 368 = .ok (.iload 7, 2) := by decide +kernel
theorem d_M_look_370 : decode b_M_look 370 = .ok (.baload, 1) := by decide +kernel
theorem d_M_look_371 : decode b_M_look 371 = .ok (.ifCond .eq 7, 3) := by decide +kernel
theorem d_M_look_374 : decode b_M_look 374 = .ok (.iconst 1, 1) := by decide +kernel
theorem d_M_look_375 : decode b_M_look 375 = .ok (.goto 4, 3) := by decide +kernel
theorem d_M_look_378 : decode b_M_look 378 = .ok (.iconst 0, 1) := by decide +kernel
theorem d_M_look_379 : decode b_M_look 379 = .ok (.aload_n 0, 1) := by decide +kernel
theorem d_M_look_380 : decode b_M_look 380 = .ok (.getfield 103, 3) := by decide +kernel
theorem d_M_look_383 : decode b_M_look 383 = .ok (.iload 6, 2) := by decide +kernel
theorem d_M_look_385 : decode b_M_look 385 = .ok (.iaload, 1) := by decide +kernel
theorem d_M_look_386 : decode b_M_look 386 = .ok (.aload_n 0, 1) := by decide +kernel
theorem d_M_look_387 : decode b_M_look 387 = .ok (.getfield 103, 3) := by decide +kernel
theorem d_M_look_390 : decode b_M_look 390 = .ok (.iload 7, 2) := by decide +kernel
theorem d_M_look_392 : decode b_M_look 392 = .ok (.iaload, 1) := by decide +kernel
theorem d_M_look_393 : decode b_M_look 393 = .ok (.iadd, 1) := by decide +kernel
theorem d_M_look_394 : decode b_M_look 394 = .ok (.invokevirtual 187, 3) := by decide +kernel
theorem d_M_look_397 : decode b_M_look 397 = .ok (.goto 35, 3) := by decide +kernel
theorem d_M_look_400 : decode b_M_look 400 = .ok (.aload_n 0, 1) := by decide +kernel
theorem d_M_look_401 : decode b_M_look 401 = .ok (.iload_n 2, 1) := by decide +kernel
theorem d_M_look_402 : decode b_M_look 402 = .ok (.iload_n 3, 1) := by decide +kernel
theorem d_M_look_403 : decode b_M_look 403 = .ok (.aload_n 0, 1) := by decide +kernel
theorem d_M_look_404 : decode b_M_look 404 = .ok (.getfield 100, 3) := by decide +kernel
theorem d_M_look_407 : decode b_M_look 407 = .ok (.iload 6, 2) := by decide +kernel
theorem d_M_look_409 : decode b_M_look 409 = .ok (.baload, 1) := by decide +kernel
theorem d_M_look_410 : decode b_M_look 410 = .ok (.ifCond .ne 7, 3) := by decide +kernel
theorem d_M_look_413 : decode b_M_look 413 = .ok (.iconst 1, 1) := by decide +kernel
theorem d_M_look_414 : decode b_M_look 414 = .ok (.goto 4, 3) := by decide +kernel
theorem d_M_look_417 : decode b_M_look 417 = .ok (.iconst 0, 1) := by decide +kernel
theorem d_M_look_418 : decode b_M_look 418 = .ok (.iconst 0, 1) := by decide +kernel
theorem d_M_look_419 : decode b_M_look 419 = .ok (.invokevirtual 187, 3) := by decide +kernel
theorem d_M_look_422 : decode b_M_look 422 = .ok (.goto 10, 3) := by decide +kernel
theorem d_M_look_425 : decode b_M_look 425 = .ok (.aload_n 0, 1) := by decide +kernel
theorem d_M_look_426 : decode b_M_look 426 = .ok (.iload_n 1, 1) := by decide +kernel
theorem d_M_look_427 : decode b_M_look 427 = .ok (.iload_n 2, 1) := by decide +kernel
theorem d_M_look_428 : decode b_M_look 428 = .ok (.iload_n 3, 1) := by decide +kernel
theorem d_M_look_429 : decode b_M_look 429 = .ok (.invokevirtual 191, 3) := by decide +kernel
theorem d_M_look_432 : decode b_M_look 432 = .ok (.return_, 1) := by decide +kernel
theorem d_M_tried_0 : decode b_M_tried 0 = .ok (.aload_n 0, 1) := by decide +kernel
theorem d_M_tried_1 : decode b_M_tried 1 = .ok (.getfield 169, 3) := by decide +kernel
theorem d_M_tried_4 : decode b_M_tried 4 = .ok (.iconst 1, 1) := by decide +kernel
theorem d_M_tried_5 : decode b_M_tried 5 = .ok (.isub, 1) := by decide +kernel
theorem d_M_tried_6 : decode b_M_tried 6 = .ok (.istore_n 2, 1) := by decide +kernel
theorem d_M_tried_7 : decode b_M_tried 7 = .ok (.iload_n 2, 1) := by decide +kernel
theorem d_M_tried_8 : decode b_M_tried 8 = .ok (.ifCond .lt 56, 3) := by decide +kernel
theorem d_M_tried_11 : decode b_M_tried 11 = .ok (.iconst 0, 1) := by decide +kernel
theorem d_M_tried_12 : decode b_M_tried 12 = .ok (.istore_n 3, 1) := by decide +kernel
theorem d_M_tried_13 : decode b_M_tried 13 = .ok (.iload_n 3, 1) := by decide +kernel
theorem d_M_tried_14 : decode b_M_tried 14 = .ok (.aload_n 0, 1) := by decide +kernel
theorem d_M_tried_15 : decode b_M_tried 15 = .ok (.getfield 39, 3) := by decide +kernel
theorem d_M_tried_18 : decode b_M_tried 18 = .ok (.iload_n 1, 1) := by decide +kernel
theorem d_M_tried_19 : decode b_M_tried 19 = .ok (.iaload, 1) := by decide +kernel
theorem d_M_tried_20 : decode b_M_tried 20 = .ok (.if_icmp .ge 38, 3) := by decide +kernel
theorem d_M_tried_23 : decode b_M_tried 23 = .ok (.aload_n 0, 1) := by decide +kernel
theorem d_M_tried_24 : decode b_M_tried 24 = .ok (.getfield 58, 3) := by decide +kernel
theorem d_M_tried_27 : decode b_M_tried 27 = .ok (.aload_n 0, 1) := by decide +kernel
theorem d_M_tried_28 : decode b_M_tried 28 = .ok (.getfield 36, 3) := by decide +kernel
theorem d_M_tried_31 : decode b_M_tried 31 = .ok (.iload_n 1, 1) := by decide +kernel
theorem d_M_tried_32 : decode b_M_tried 32 = .ok (.iaload, 1) := by decide +kernel
theorem d_M_tried_33 : decode b_M_tried 33 = .ok (.iload_n 3, 1) := by decide +kernel
theorem d_M_tried_34 : decode b_M_tried 34 = .ok (.iadd, 1) := by decide +kernel
theorem d_M_tried_35 : decode b_M_tried 35 = .ok (.iaload, 1) := by decide +kernel
theorem d_M_tried_36 : decode b_M_tried 36 = .ok (.aload_n 0, 1) := by decide +kernel
theorem d_M_tried_37 : decode b_M_tried 37 = .ok (.getfield 82, 3) := by decide +kernel
theorem d_M_tried_40 : decode b_M_tried 40 = .ok (.iload_n 2, 1) := by decide +kernel
theorem d_M_tried_41 : decode b_M_tried 41 = .ok (.iaload, 1) := by decide +kernel
theorem d_M_tried_42 : decode b_M_tried 42 = .ok (.if_icmp .ne 10, 3) := by decide +kernel
theorem d_M_tried_45 : decode b_M_tried 45 = .ok (.aload_n 0, 1) := by decide +kernel
theorem d_M_tried_46 : decode b_M_tried 46 = .ok (.iload_n 1, 1) := by decide +kernel
theorem d_M_tried_47 : decode b_M_tried 47 = .ok (.iload_n 2, 1) := by decide +kernel
theorem d_M_tried_48 : decode b_M_tried 48 = .ok (.iload_n 3, 1) := by decide +kernel
theorem d_M_tried_49 : decode b_M_tried 49 = .ok (.invokevirtual 195, 3) := by decide +kernel
theorem d_M_tried_52 : decode b_M_tried 52 = .ok (.iinc 3 1, 3) := by decide +kernel
theorem d_M_tried_55 : decode b_M_tried 55 = .ok (.goto (-42), 3) := by decide +kernel
theorem d_M_tried_58 : decode b_M_tried 58 = .ok (.iinc 2 (-1), 3) := by decide +kernel
theorem d_M_tried_61 : decode b_M_tried 61 = .ok (.goto (-54), 3) := by decide +kernel
theorem d_M_tried_64 : decode b_M_tried 64 = .ok (.aload_n 0, 1) := by decide +kernel
theorem d_M_tried_65 : decode b_M_tried 65 = .ok (.getfield 100, 3) := by decide +kernel
theorem d_M_tried_68 : decode b_M_tried 68 = .ok (.aload_n 0, 1) := by decide +kernel
theorem d_M_tried_69 : decode b_M_tried 69 = .ok (.getfield 39, 3) := by decide +kernel
theorem d_M_tried_72 : decode b_M_tried 72 = .ok (.iload_n 1, 1) := by decide +kernel
theorem d_M_tried_73 : decode b_M_tried 73 = .ok (.iaload, 1) := by decide +kernel
theorem d_M_tried_74 : decode b_M_tried 74 = .ok (.iconst 1, 1) := by decide +kernel
theorem d_M_tried_75 : decode b_M_tried 75 = .ok (.isub, 1) := by decide +kernel
theorem d_M_tried_76 : decode b_M_tried 76 = .ok (.baload, 1) := by decide +kernel
theorem d_M_tried_77 : decode b_M_tried 77 = .ok (.ireturn, 1) := by decide +kernel
theorem d_M_rootInSnapshot_0 : decode b_M_rootInSnapshot 0 = .ok (.aload_n 0, 1) := by decide +kernel
theorem d_M_rootInSnapshot_1 : decode b_M_rootInSnapshot 1 = .ok (.getfield 39, 3) := by decide +kernel
theorem d_M_rootInSnapshot_4 : decode b_M_rootInSnapshot 4 = .ok (.iload_n 1, 1) := by decide +kernel
theorem d_M_rootInSnapshot_5 : decode b_M_rootInSnapshot 5 = .ok (.iaload, 1) := by decide +kernel
theorem d_M_rootInSnapshot_6 : decode b_M_rootInSnapshot 6 = .ok (.iconst 1, 1) := by decide +kernel
theorem d_M_rootInSnapshot_7 : decode b_M_rootInSnapshot 7 = .ok (.isub, 1) := by decide +kernel
theorem d_M_rootInSnapshot_8 : decode b_M_rootInSnapshot 8 = .ok (.istore_n 2, 1) := by decide +kernel
theorem d_M_rootInSnapshot_9 : decode b_M_rootInSnapshot 9 = .ok (.iconst 0, 1) := by decide +kernel
theorem d_M_rootInSnapshot_10 : decode b_M_rootInSnapshot 10 = .ok (.istore_n 3, 1) := by decide +kernel
theorem d_M_rootInSnapshot_11 : decode b_M_rootInSnapshot 11 = .ok (.iload_n 3, 1) := by decide +kernel
theorem d_M_rootInSnapshot_12 : decode b_M_rootInSnapshot 12 = .ok (.iload_n 1, 1) := by decide +kernel
theorem d_M_rootInSnapshot_13 : decode b_M_rootInSnapshot 13 = .ok (.if_icmp .ge 33, 3) := by decide +kernel
theorem d_M_rootInSnapshot_16 : decode b_M_rootInSnapshot 16 = .ok (.aload_n 0, 1) := by decide +kernel
theorem d_M_rootInSnapshot_17 : decode b_M_rootInSnapshot 17 = .ok (.getfield 48, 3) := by decide +kernel
theorem d_M_rootInSnapshot_20 : decode b_M_rootInSnapshot 20 = .ok (.iload_n 3, 1) := by decide +kernel
theorem d_M_rootInSnapshot_21 : decode b_M_rootInSnapshot 21 = .ok (.iaload, 1) := by decide +kernel
theorem d_M_rootInSnapshot_22 : decode b_M_rootInSnapshot 22 = .ok (.aload_n 0, 1) := by decide +kernel
theorem d_M_rootInSnapshot_23 : decode b_M_rootInSnapshot 23 = .ok (.getfield 48, 3) := by decide +kernel
theorem d_M_rootInSnapshot_26 : decode b_M_rootInSnapshot 26 = .ok (.iload_n 1, 1) := by decide +kernel
theorem d_M_rootInSnapshot_27 : decode b_M_rootInSnapshot 27 = .ok (.iaload, 1) := by decide +kernel
theorem d_M_rootInSnapshot_28 : decode b_M_rootInSnapshot 28 = .ok (.if_icmp .ne 12, 3) := by decide +kernel
theorem d_M_rootInSnapshot_31 : decode b_M_rootInSnapshot 31 = .ok (.iload_n 2, 1) := by decide +kernel
theorem d_M_rootInSnapshot_32 : decode b_M_rootInSnapshot 32 = .ok (.aload_n 0, 1) := by decide +kernel
theorem d_M_rootInSnapshot_33 : decode b_M_rootInSnapshot 33 = .ok (.getfield 39, 3) := by decide +kernel
theorem d_M_rootInSnapshot_36 : decode b_M_rootInSnapshot 36 = .ok (.iload_n 3, 1) := by decide +kernel
theorem d_M_rootInSnapshot_37 : decode b_M_rootInSnapshot 37 = .ok (.iaload, 1) := by decide +kernel
theorem d_M_rootInSnapshot_38 : decode b_M_rootInSnapshot 38 = .ok (.iadd, 1) := by decide +kernel
theorem d_M_rootInSnapshot_39 : decode b_M_rootInSnapshot 39 = .ok (.istore_n 2, 1) := by decide +kernel
theorem d_M_rootInSnapshot_40 : decode b_M_rootInSnapshot 40 = .ok (.iinc 3 1, 3) := by decide +kernel
theorem d_M_rootInSnapshot_43 : decode b_M_rootInSnapshot 43 = .ok (.goto (-32), 3) := by decide +kernel
theorem d_M_rootInSnapshot_46 : decode b_M_rootInSnapshot 46 = .ok (.iload_n 2, 1) := by decide +kernel
theorem d_M_rootInSnapshot_47 : decode b_M_rootInSnapshot 47 = .ok (.ireturn, 1) := by decide +kernel
theorem d_M_search_0 : decode b_M_search 0 = .ok (.aload_n 0, 1) := by decide +kernel
theorem d_M_search_1 : decode b_M_search 1 = .ok (.invokevirtual 198, 3) := by decide +kernel
theorem d_M_search_4 : decode b_M_search 4 = .ok (.istore_n 1, 1) := by decide +kernel
theorem d_M_search_5 : decode b_M_search 5 = .ok (.iload_n 1, 1) := by decide +kernel
theorem d_M_search_6 : decode b_M_search 6 = .ok (.ifCond .eq 10, 3) := by decide +kernel
theorem d_M_search_9 : decode b_M_search 9 = .ok (.aload_n 0, 1) := by decide +kernel
theorem d_M_search_10 : decode b_M_search 10 = .ok (.getfield 165, 3) := by decide +kernel
theorem d_M_search_13 : decode b_M_search 13 = .ok (.ifCond .ne 6, 3) := by decide +kernel
theorem d_M_search_16 : decode b_M_search 16 = .ok (.bipush (-2), 2) := by decide +kernel
theorem d_M_search_18 : decode b_M_search 18 = .ok (.ireturn, 1) := by decide +kernel
theorem d_M_search_19 : decode b_M_search 19 = .ok (.aload_n 0, 1) := by decide +kernel
theorem d_M_search_20 : decode b_M_search 20 = .ok (.invokevirtual 201, 3) := by decide +kernel
theorem d_M_search_23 : decode b_M_search 23 = .ok (.aload_n 0, 1) := by decide +kernel
theorem d_M_search_24 : decode b_M_search 24 = .ok (.iconst 0, 1) := by decide +kernel
theorem d_M_search_25 : decode b_M_search 25 = .ok (.putfield 204, 3) := by decide +kernel
theorem d_M_search_28 : decode b_M_search 28 = .ok (.iconst 0, 1) := by decide +kernel
theorem d_M_search_29 : decode b_M_search 29 = .ok (.istore_n 2, 1) := by decide +kernel
theorem d_M_search_30 : decode b_M_search 30 = .ok (.iload_n 2, 1) := by decide +kernel
theorem d_M_search_31 : decode b_M_search 31 = .ok (.aload_n 0, 1) := by decide +kernel
theorem d_M_search_32 : decode b_M_search 32 = .ok (.getfield 132, 3) := by decide +kernel
theorem d_M_search_35 : decode b_M_search 35 = .ok (.if_icmp .ge 196, 3) := by decide +kernel
theorem d_M_search_38 : decode b_M_search 38 = .ok (.aload_n 0, 1) := by decide +kernel
theorem d_M_search_39 : decode b_M_search 39 = .ok (.getfield 55, 3) := by decide +kernel
theorem d_M_search_42 : decode b_M_search 42 = .ok (.iload_n 2, 1) := by decide +kernel
theorem d_M_search_43 : decode b_M_search 43 = .ok (.baload, 1) := by decide +kernel
theorem d_M_search_44 : decode b_M_search 44 = .ok (.ifCond .ne 6, 3) := by decide +kernel
theorem d_M_search_47 : decode b_M_search 47 = .ok (.goto 178, 3) := by decide +kernel
theorem d_M_search_50 : decode b_M_search 50 = .ok (.aload_n 0, 1) := by decide +kernel
theorem d_M_search_51 : decode b_M_search 51 = .ok (.iload_n 2, 1) := by decide +kernel
theorem d_M_search_52 : decode b_M_search 52 = .ok (.invokevirtual 207, 3) := by decide +kernel
theorem d_M_search_55 : decode b_M_search 55 = .ok (.istore_n 3, 1) := by decide +kernel
theorem d_M_search_56 : decode b_M_search 56 = .ok (.iload_n 3, 1) := by decide +kernel
theorem d_M_search_57 : decode b_M_search 57 = .ok (.ifCond .ne 6, 3) := by decide +kernel
theorem d_M_search_60 : decode b_M_search 60 = .ok (.goto 165, 3) := by decide +kernel
theorem d_M_search_63 : decode b_M_search 63 = .ok (.aload_n 0, 1) := by decide +kernel
theorem d_M_search_64 : decode b_M_search 64 = .ok (.getfield 103, 3) := by decide +kernel
theorem d_M_search_67 : decode b_M_search 67 = .ok (.aload_n 0, 1) := by decide +kernel
theorem d_M_search_68 : decode b_M_search 68 = .ok (.getfield 39, 3) := by decide +kernel
theorem d_M_search_71 : decode b_M_search 71 = .ok (.iload_n 2, 1) := by decide +kernel
theorem d_M_search_72 : decode b_M_search 72 = .ok (.iaload, 1) := by decide +kernel
theorem d_M_search_73 : decode b_M_search 73 = .ok (.iconst 1, 1) := by decide +kernel
theorem d_M_search_74 : decode b_M_search 74 = .ok (.isub, 1) := by decide +kernel
theorem d_M_search_75 : decode b_M_search 75 = .ok (.iaload, 1) := by decide +kernel
theorem d_M_search_76 : decode b_M_search 76 = .ok (.istore 4, 2) := by decide +kernel
theorem d_M_search_78 : decode b_M_search 78 = .ok (.aload_n 0, 1) := by decide +kernel
theorem d_M_search_79 : decode b_M_search 79 = .ok (.getfield 204, 3) := by decide +kernel
theorem d_M_search_82 : decode b_M_search 82 = .ok (.istore 5, 2) := by decide +kernel
theorem d_M_search_84 : decode b_M_search 84 = .ok (.iload 5, 2) := by decide +kernel
theorem d_M_search_86 : decode b_M_search 86 = .ok (.ifCond .le 87, 3) := by decide +kernel
theorem d_M_search_89 : decode b_M_search 89 = .ok (.aload_n 0, 1) := by decide +kernel
theorem d_M_search_90 : decode b_M_search 90 = .ok (.getfield 109, 3) := by decide +kernel
theorem d_M_search_93 : decode b_M_search 93 = .ok (.iload 5, 2) := by decide +kernel
theorem d_M_search_95 : decode b_M_search 95 = .ok (.iconst 1, 1) := by decide +kernel
theorem d_M_search_96 : decode b_M_search 96 = .ok (.isub, 1) := by decide +kernel
theorem d_M_search_97 : decode b_M_search 97 = .ok (.iaload, 1) := by decide +kernel
theorem d_M_search_98 : decode b_M_search 98 = .ok (.iload 4, 2) := by decide +kernel
theorem d_M_search_100 : decode b_M_search 100 = .ok (.if_icmp .ge 73, 3) := by decide +kernel
theorem d_M_search_103 : decode b_M_search 103 = .ok (.aload_n 0, 1) := by decide +kernel
theorem d_M_search_104 : decode b_M_search 104 = .ok (.getfield 109, 3) := by decide +kernel
theorem d_M_search_107 : decode b_M_search 107 = .ok (.iload 5, 2) := by decide +kernel
theorem d_M_search_109 : decode b_M_search 109 = .ok (.aload_n 0, 1) := by decide +kernel
theorem d_M_search_110 : decode b_M_search 110 = .ok (.getfield 109, 3) := by decide +kernel
theorem d_M_search_113 : decode b_M_search 113 = .ok (.iload 5, 2) := by decide +kernel
theorem d_M_search_115 : decode b_M_search 115 = .ok (.iconst 1, 1) := by decide +kernel
theorem d_M_search_116 : decode b_M_search 116 = .ok (.isub, 1) := by decide +kernel
theorem d_M_search_117 : decode b_M_search 117 = .ok (.iaload, 1) := by decide +kernel
theorem d_M_search_118 : decode b_M_search 118 = .ok (.iastore, 1) := by decide +kernel
theorem d_M_search_119 : decode b_M_search 119 = .ok (.aload_n 0, 1) := by decide +kernel
theorem d_M_search_120 : decode b_M_search 120 = .ok (.getfield 106, 3) := by decide +kernel
theorem d_M_search_123 : decode b_M_search 123 = .ok (.iload 5, 2) := by decide +kernel
theorem d_M_search_125 : decode b_M_search 125 = .ok (.aload_n 0, 1) := by decide +kernel
theorem d_M_search_126 : decode b_M_search 126 = .ok (.getfield 106, 3) := by decide +kernel
theorem d_M_search_129 : decode b_M_search 129 = .ok (.iload 5, 2) := by decide +kernel
theorem d_M_search_131 : decode b_M_search 131 = .ok (.iconst 1, 1) := by decide +kernel
theorem d_M_search_132 : decode b_M_search 132 = .ok (.isub, 1) := by decide +kernel
theorem d_M_search_133 : decode b_M_search 133 = .ok (.iaload, 1) := by decide +kernel
theorem d_M_search_134 : decode b_M_search 134 = .ok (.iastore, 1) := by decide +kernel
theorem d_M_search_135 : decode b_M_search 135 = .ok (.aload_n 0, 1) := by decide +kernel
theorem d_M_search_136 : decode b_M_search 136 = .ok (.getfield 112, 3) := by decide +kernel
theorem d_M_search_139 : decode b_M_search 139 = .ok (.iload 5, 2) := by decide +kernel
theorem d_M_search_141 : decode b_M_search 141 = .ok (.aload_n 0, 1) := by decide +kernel
theorem d_M_search_142 : decode b_M_search 142 = .ok (.getfield 112, 3) := by decide +kernel
theorem d_M_search_145 : decode b_M_search 145 = .ok (.iload 5, 2) := by decide +kernel
theorem d_M_search_147 : decode b_M_search 147 = .ok (.iconst 1, 1) := by decide +kernel
theorem d_M_search_148 : decode b_M_search 148 = .ok (.isub, 1) := by decide +kernel
theorem d_M_search_149 : decode b_M_search 149 = .ok (.iaload, 1) := by decide +kernel
theorem d_M_search_150 : decode b_M_search 150 = .ok (.iastore, 1) := by decide +kernel
theorem d_M_search_151 : decode b_M_search 151 = .ok (.aload_n 0, 1) := by decide +kernel
theorem d_M_search_152 : decode b_M_search 152 = .ok (.getfield 115, 3) := by decide +kernel
theorem d_M_search_155 : decode b_M_search 155 = .ok (.iload 5, 2) := by decide +kernel
theorem d_M_search_157 : decode b_M_search 157 = .ok (.aload_n 0, 1) := by decide +kernel
theorem d_M_search_158 : decode b_M_search 158 = .ok (.getfield 115, 3) := by decide +kernel
theorem d_M_search_161 : decode b_M_search 161 = .ok (.iload 5, 2) := by decide +kernel
theorem d_M_search_163 : decode b_M_search 163 = .ok (.iconst 1, 1) := by decide +kernel
theorem d_M_search_164 : decode b_M_search 164 = .ok (.isub, 1) := by decide +kernel
theorem d_M_search_165 : decode b_M_search 165 = .ok (.iaload, 1) := by decide +kernel
theorem d_M_search_166 : decode b_M_search 166 = .ok (.iastore, 1) := by decide +kernel
theorem d_M_search_167 : decode b_M_search 167 = .ok (.iinc 5 (-1), 3) := by decide +kernel
theorem d_M_search_170 : decode b_M_search 170 = .ok (.goto (-86), 3) := by decide +kernel
theorem d_M_search_173 : decode b_M_search 173 = .ok (.aload_n 0, 1) := by decide +kernel
theorem d_M_search_174 : decode b_M_search 174 = .ok (.getfield 109, 3) := by decide +kernel
theorem d_M_search_177 : decode b_M_search 177 = .ok (.iload 5, 2) := by decide +kernel
theorem d_M_search_179 : decode b_M_search 179 = .ok (.iload 4, 2) := by decide +kernel
theorem d_M_search_181 : decode b_M_search 181 = .ok (.iastore, 1) := by decide +kernel
theorem d_M_search_182 : decode b_M_search 182 = .ok (.aload_n 0, 1) := by decide +kernel
theorem d_M_search_183 : decode b_M_search 183 = .ok (.getfield 106, 3) := by decide +kernel
theorem d_M_search_186 : decode b_M_search 186 = .ok (.iload 5, 2) := by decide +kernel
theorem d_M_search_188 : decode b_M_search 188 = .ok (.iload_n 2, 1) := by decide +kernel
theorem d_M_search_189 : decode b_M_search 189 = .ok (.iastore, 1) := by decide +kernel
theorem d_M_search_190 : decode b_M_search 190 = .ok (.aload_n 0, 1) := by decide +kernel
theorem d_M_search_191 : decode b_M_search 191 = .ok (.getfield 112, 3) := by decide +kernel
theorem d_M_search_194 : decode b_M_search 194 = .ok (.iload 5, 2) := by decide +kernel
theorem d_M_search_196 : decode b_M_search 196 = .ok (.aload_n 0, 1) := by decide +kernel
theorem d_M_search_197 : decode b_M_search 197 = .ok (.getfield 48, 3) := by decide +kernel
theorem d_M_search_200 : decode b_M_search 200 = .ok (.iload_n 2, 1) := by decide +kernel
theorem d_M_search_201 : decode b_M_search 201 = .ok (.iaload, 1) := by decide +kernel
theorem d_M_search_202 : decode b_M_search 202 = .ok (.iastore, 1) := by decide +kernel
theorem d_M_search_203 : decode b_M_search 203 = .ok (.aload_n 0, 1) := by decide +kernel
theorem d_M_search_204 : decode b_M_search 204 = .ok (.getfield 115, 3) := by decide +kernel
theorem d_M_search_207 : decode b_M_search 207 = .ok (.iload 5, 2) := by decide +kernel
theorem d_M_search_209 : decode b_M_search 209 = .ok (.aload_n 0, 1) := by decide +kernel
theorem d_M_search_210 : decode b_M_search 210 = .ok (.iload_n 2, 1) := by decide +kernel
theorem d_M_search_211 : decode b_M_search 211 = .ok (.invokevirtual 211, 3) := by decide +kernel
theorem d_M_search_214 : decode b_M_search 214 = .ok (.iastore, 1) := by decide +kernel
theorem d_M_search_215 : decode b_M_search 215 = .ok (.aload_n 0, 1) := by decide +kernel
theorem d_M_search_216 : decode b_M_search 216 = .ok (.dup, 1) := by decide +kernel
theorem d_M_search_217 : decode b_M_search 217 = .ok (.getfield 204, 3) := by decide +kernel
theorem d_M_search_220 : decode b_M_search 220 = .ok (.iconst 1, 1) := by decide +kernel
theorem d_M_search_221 : decode b_M_search 221 = .ok (.iadd, 1) := by decide +kernel
theorem d_M_search_222 : decode b_M_search 222 = .ok (.putfield 204, 3) := by decide +kernel
theorem d_M_search_225 : decode b_M_search 225 = .ok (.iinc 2 1, 3) := by decide +kernel
theorem d_M_search_228 : decode b_M_search 228 = .ok (.goto (-198), 3) := by decide +kernel
theorem d_M_search_231 : decode b_M_search 231 = .ok (.aload_n 0, 1) := by decide +kernel
theorem d_M_search_232 : decode b_M_search 232 = .ok (.getfield 204, 3) := by decide +kernel
theorem d_M_search_235 : decode b_M_search 235 = .ok (.ireturn, 1) := by decide +kernel
theorem d_M_hit_0 : decode b_M_hit 0 = .ok (.iload_n 2, 1) := by decide +kernel
theorem d_M_hit_1 : decode b_M_hit 1 = .ok (.iconst 0, 1) := by decide +kernel
theorem d_M_hit_2 : decode b_M_hit 2 = .ok (.iconst 4, 1) := by decide +kernel
theorem d_M_hit_3 : decode b_M_hit 3 = .ok (.invokestatic 118, 3) := by decide +kernel
theorem d_M_hit_6 : decode b_M_hit 6 = .ok (.ifCond .ne 5, 3) := by decide +kernel
theorem d_M_hit_9 : decode b_M_hit 9 = .ok (.iconst (-1), 1) := by decide +kernel
theorem d_M_hit_10 : decode b_M_hit 10 = .ok (.ireturn, 1) := by decide +kernel
theorem d_M_hit_11 : decode b_M_hit 11 = .ok (.iload_n 1, 1) := by decide +kernel
theorem d_M_hit_12 : decode b_M_hit 12 = .ok (.iconst 0, 1) := by decide +kernel
theorem d_M_hit_13 : decode b_M_hit 13 = .ok (.aload_n 0, 1) := by decide +kernel
theorem d_M_hit_14 : decode b_M_hit 14 = .ok (.getfield 204, 3) := by decide +kernel
theorem d_M_hit_17 : decode b_M_hit 17 = .ok (.iconst 1, 1) := by decide +kernel
theorem d_M_hit_18 : decode b_M_hit 18 = .ok (.isub, 1) := by decide +kernel
theorem d_M_hit_19 : decode b_M_hit 19 = .ok (.invokestatic 118, 3) := by decide +kernel
theorem d_M_hit_22 : decode b_M_hit 22 = .ok (.ifCond .ne 6, 3) := by decide +kernel
theorem d_M_hit_25 : decode b_M_hit 25 = .ok (.bipush (-2), 2) := by decide +kernel
theorem d_M_hit_27 : decode b_M_hit 27 = .ok (.ireturn, 1) := by decide +kernel
theorem d_M_hit_28 : decode b_M_hit 28 = .ok (.iload_n 2, 1) := by decide +kernel
theorem d_M_hit_29 : decode b_M_hit 29 = .ok (.tableswitch 64 0 3 #[31, 43, 50, 57], 31) := by decide +kernel
theorem d_M_hit_60 : decode b_M_hit 60 = .ok (.aload_n 0, 1) := by decide +kernel
theorem d_M_hit_61 : decode b_M_hit 61 = .ok (.getfield 42, 3) := by decide +kernel
theorem d_M_hit_64 : decode b_M_hit 64 = .ok (.aload_n 0, 1) := by decide +kernel
theorem d_M_hit_65 : decode b_M_hit 65 = .ok (.getfield 106, 3) := by decide +kernel
theorem d_M_hit_68 : decode b_M_hit 68 = .ok (.iload_n 1, 1) := by decide +kernel
theorem d_M_hit_69 : decode b_M_hit 69 = .ok (.iaload, 1) := by decide +kernel
theorem d_M_hit_70 : decode b_M_hit 70 = .ok (.iaload, 1) := by decide +kernel
theorem d_M_hit_71 : decode b_M_hit 71 = .ok (.ireturn, 1) := by decide +kernel
theorem d_M_hit_72 : decode b_M_hit 72 = .ok (.aload_n 0, 1) := by decide +kernel
theorem d_M_hit_73 : decode b_M_hit 73 = .ok (.getfield 109, 3) := by decide +kernel
theorem d_M_hit_76 : decode b_M_hit 76 = .ok (.iload_n 1, 1) := by decide +kernel
theorem d_M_hit_77 : decode b_M_hit 77 = .ok (.iaload, 1) := by decide +kernel
theorem d_M_hit_78 : decode b_M_hit 78 = .ok (.ireturn, 1) := by decide +kernel
theorem d_M_hit_79 : decode b_M_hit 79 = .ok (.aload_n 0, 1) := by decide +kernel
theorem d_M_hit_80 : decode b_M_hit 80 = .ok (.getfield 112, 3) := by decide +kernel
theorem d_M_hit_83 : decode b_M_hit 83 = .ok (.iload_n 1, 1) := by decide +kernel
theorem d_M_hit_84 : decode b_M_hit 84 = .ok (.iaload, 1) := by decide +kernel
theorem d_M_hit_85 : decode b_M_hit 85 = .ok (.ireturn, 1) := by decide +kernel
theorem d_M_hit_86 : decode b_M_hit 86 = .ok (.aload_n 0, 1) := by decide +kernel
theorem d_M_hit_87 : decode b_M_hit 87 = .ok (.getfield 115, 3) := by decide +kernel
theorem d_M_hit_90 : decode b_M_hit 90 = .ok (.iload_n 1, 1) := by decide +kernel
theorem d_M_hit_91 : decode b_M_hit 91 = .ok (.iaload, 1) := by decide +kernel
theorem d_M_hit_92 : decode b_M_hit 92 = .ok (.ireturn, 1) := by decide +kernel
theorem d_M_hit_93 : decode b_M_hit 93 = .ok (.aload_n 0, 1) := by decide +kernel
theorem d_M_hit_94 : decode b_M_hit 94 = .ok (.getfield 39, 3) := by decide +kernel
theorem d_M_hit_97 : decode b_M_hit 97 = .ok (.aload_n 0, 1) := by decide +kernel
theorem d_M_hit_98 : decode b_M_hit 98 = .ok (.getfield 106, 3) := by decide +kernel
theorem d_M_hit_101 : decode b_M_hit 101 = .ok (.iload_n 1, 1) := by decide +kernel
theorem d_M_hit_102 : decode b_M_hit 102 = .ok (.iaload, 1) := by decide +kernel
theorem d_M_hit_103 : decode b_M_hit 103 = .ok (.iaload, 1) := by decide +kernel
theorem d_M_hit_104 : decode b_M_hit 104 = .ok (.ireturn, 1) := by decide +kernel
theorem d_M_score_0 : decode b_M_score 0 = .ok (.aload_n 0, 1) := by decide +kernel
theorem d_M_score_1 : decode b_M_score 1 = .ok (.invokevirtual 198, 3) := by decide +kernel
theorem d_M_score_4 : decode b_M_score 4 = .ok (.istore_n 2, 1) := by decide +kernel
theorem d_M_score_5 : decode b_M_score 5 = .ok (.iload_n 2, 1) := by decide +kernel
theorem d_M_score_6 : decode b_M_score 6 = .ok (.ifCond .eq 10, 3) := by decide +kernel
theorem d_M_score_9 : decode b_M_score 9 = .ok (.aload_n 0, 1) := by decide +kernel
theorem d_M_score_10 : decode b_M_score 10 = .ok (.getfield 165, 3) := by decide +kernel
theorem d_M_score_13 : decode b_M_score 13 = .ok (.ifCond .ne 6, 3) := by decide +kernel
theorem d_M_score_16 : decode b_M_score 16 = .ok (.bipush (-2), 2) := by decide +kernel
theorem d_M_score_18 : decode b_M_score 18 = .ok (.ireturn, 1) := by decide +kernel
theorem d_M_score_19 : decode b_M_score 19 = .ok (.iconst 0, 1) := by decide +kernel
theorem d_M_score_20 : decode b_M_score 20 = .ok (.istore_n 3, 1) := by decide +kernel
theorem d_M_score_21 : decode b_M_score 21 = .ok (.iload_n 3, 1) := by decide +kernel
theorem d_M_score_22 : decode b_M_score 22 = .ok (.aload_n 0, 1) := by decide +kernel
theorem d_M_score_23 : decode b_M_score 23 = .ok (.getfield 132, 3) := by decide +kernel
theorem d_M_score_26 : decode b_M_score 26 = .ok (.if_icmp .ge 66, 3) := by decide +kernel
theorem d_M_score_29 : decode b_M_score 29 = .ok (.aload_n 0, 1) := by decide +kernel
theorem d_M_score_30 : decode b_M_score 30 = .ok (.getfield 55, 3) := by decide +kernel
theorem d_M_score_33 : decode b_M_score 33 = .ok (.iload_n 3, 1) := by decide +kernel
theorem d_M_score_34 : decode b_M_score 34 = .ok (.baload, 1) := by decide +kernel
theorem d_M_score_35 : decode b_M_score 35 = .ok (.ifCond .eq 51, 3) := by decide +kernel
theorem d_M_score_38 : decode b_M_score 38 = .ok (.aload_n 0, 1) := by decide +kernel
theorem d_M_score_39 : decode b_M_score 39 = .ok (.getfield 42, 3) := by decide +kernel
theorem d_M_score_42 : decode b_M_score 42 = .ok (.iload_n 3, 1) := by decide +kernel
theorem d_M_score_43 : decode b_M_score 43 = .ok (.iaload, 1) := by decide +kernel
theorem d_M_score_44 : decode b_M_score 44 = .ok (.iload_n 1, 1) := by decide +kernel
theorem d_M_score_45 : decode b_M_score 45 = .ok (.if_icmp .eq 6, 3) := by decide +kernel
theorem d_M_score_48 : decode b_M_score 48 = .ok (.goto 38, 3) := by decide +kernel
theorem d_M_score_51 : decode b_M_score 51 = .ok (.aload_n 0, 1) := by decide +kernel
theorem d_M_score_52 : decode b_M_score 52 = .ok (.invokevirtual 201, 3) := by decide +kernel
theorem d_M_score_55 : decode b_M_score 55 = .ok (.aload_n 0, 1) := by decide +kernel
theorem d_M_score_56 : decode b_M_score 56 = .ok (.iload_n 3, 1) := by decide +kernel
theorem d_M_score_57 : decode b_M_score 57 = .ok (.invokevirtual 207, 3) := by decide +kernel
theorem d_M_score_60 : decode b_M_score 60 = .ok (.istore 4, 2) := by decide +kernel
theorem d_M_score_62 : decode b_M_score 62 = .ok (.iload 4, 2) := by decide +kernel
theorem d_M_score_64 : decode b_M_score 64 = .ok (.ifCond .eq 19, 3) := by decide +kernel
theorem d_M_score_67 : decode b_M_score 67 = .ok (.aload_n 0, 1) := by decide +kernel
theorem d_M_score_68 : decode b_M_score 68 = .ok (.getfield 103, 3) := by decide +kernel
theorem d_M_score_71 : decode b_M_score 71 = .ok (.aload_n 0, 1) := by decide +kernel
theorem d_M_score_72 : decode b_M_score 72 = .ok (.getfield 39, 3) := by decide +kernel
theorem d_M_score_75 : decode b_M_score 75 = .ok (.iload_n 3, 1) := by decide +kernel
theorem d_M_score_76 : decode b_M_score 76 = .ok (.iaload, 1) := by decide +kernel
theorem d_M_score_77 : decode b_M_score 77 = .ok (.iconst 1, 1) := by decide +kernel
theorem d_M_score_78 : decode b_M_score 78 = .ok (.isub, 1) := by decide +kernel
theorem d_M_score_79 : decode b_M_score 79 = .ok (.iaload, 1) := by decide +kernel
theorem d_M_score_80 : decode b_M_score 80 = .ok (.goto 5, 3) := by decide +kernel
theorem d_M_score_83 : decode b_M_score 83 = .ok (.bipush (-2), 2) := by decide +kernel
theorem d_M_score_85 : decode b_M_score 85 = .ok (.ireturn, 1) := by decide +kernel
theorem d_M_score_86 : decode b_M_score 86 = .ok (.iinc 3 1, 3) := by decide +kernel
theorem d_M_score_89 : decode b_M_score 89 = .ok (.goto (-68), 3) := by decide +kernel
theorem d_M_score_92 : decode b_M_score 92 = .ok (.bipush (-2), 2) := by decide +kernel
theorem d_M_score_94 : decode b_M_score 94 = .ok (.ireturn, 1) := by decide +kernel
theorem d_M_object_0 : decode b_M_object 0 = .ok (.iload_n 3, 1) := by decide +kernel
theorem d_M_object_1 : decode b_M_object 1 = .ok (.iconst 0, 1) := by decide +kernel
theorem d_M_object_2 : decode b_M_object 2 = .ok (.iconst 4, 1) := by decide +kernel
theorem d_M_object_3 : decode b_M_object 3 = .ok (.invokestatic 118, 3) := by decide +kernel
theorem d_M_object_6 : decode b_M_object 6 = .ok (.ifCond .ne 16, 3) := by decide +kernel
theorem d_M_object_9 : decode b_M_object 9 = .ok (.iload_n 3, 1) := by decide +kernel
theorem d_M_object_10 : decode b_M_object 10 = .ok (.bipush 10, 2) := by decide +kernel
theorem d_M_object_12 : decode b_M_object 12 = .ok (.bipush 13, 2) := by decide +kernel
theorem d_M_object_14 : decode b_M_object 14 = .ok (.invokestatic 118, 3) := by decide +kernel
theorem d_M_object_17 : decode b_M_object 17 = .ok (.ifCond .ne 5, 3) := by decide +kernel
theorem d_M_object_20 : decode b_M_object 20 = .ok (.iconst (-1), 1) := by decide +kernel
theorem d_M_object_21 : decode b_M_object 21 = .ok (.ireturn, 1) := by decide +kernel
theorem d_M_object_22 : decode b_M_object 22 = .ok (.iload_n 1, 1) := by decide +kernel
theorem d_M_object_23 : decode b_M_object 23 = .ok (.iconst 0, 1) := by decide +kernel
theorem d_M_object_24 : decode b_M_object 24 = .ok (.aload_n 0, 1) := by decide +kernel
theorem d_M_object_25 : decode b_M_object 25 = .ok (.getfield 159, 3) := by decide +kernel
theorem d_M_object_28 : decode b_M_object 28 = .ok (.iconst 1, 1) := by decide +kernel
theorem d_M_object_29 : decode b_M_object 29 = .ok (.isub, 1) := by decide +kernel
theorem d_M_object_30 : decode b_M_object 30 = .ok (.invokestatic 118, 3) := by decide +kernel
theorem d_M_object_33 : decode b_M_object 33 = .ok (.ifCond .eq 7, 3) := by decide +kernel
theorem d_M_object_36 : decode b_M_object 36 = .ok (.iload_n 2, 1) := by decide +kernel
theorem d_M_object_37 : decode b_M_object 37 = .ok (.ifCond .ge 6, 3) := by decide +kernel
theorem d_M_object_40 : decode b_M_object 40 = .ok (.bipush (-2), 2) := by decide +kernel
theorem d_M_object_42 : decode b_M_object 42 = .ok (.ireturn, 1) := by decide +kernel
theorem d_M_object_43 : decode b_M_object 43 = .ok (.iconst 0, 1) := by decide +kernel
theorem d_M_object_44 : decode b_M_object 44 = .ok (.istore 4, 2) := by decide +kernel
theorem d_M_object_46 : decode b_M_object 46 = .ok (.iconst 0, 1) := by decide +kernel
theorem d_M_object_47 : decode b_M_object 47 = .ok (.istore 5, 2) := by decide +kernel
theorem d_M_object_49 : decode b_M_object 49 = .ok (.iload 5, 2) := by decide +kernel
theorem d_M_object_51 : decode b_M_object 51 = .ok (.aload_n 0, 1) := by decide +kernel
theorem d_M_object_52 : decode b_M_object 52 = .ok (.getfield 132, 3) := by decide +kernel
theorem d_M_object_55 : decode b_M_object 55 = .ok (.if_icmp .ge 63, 3) := by decide +kernel
theorem d_M_object_58 : decode b_M_object 58 = .ok (.aload_n 0, 1) := by decide +kernel
theorem d_M_object_59 : decode b_M_object 59 = .ok (.getfield 45, 3) := by decide +kernel
theorem d_M_object_62 : decode b_M_object 62 = .ok (.iload 5, 2) := by decide +kernel
theorem d_M_object_64 : decode b_M_object 64 = .ok (.iaload, 1) := by decide +kernel
theorem d_M_object_65 : decode b_M_object 65 = .ok (.iload_n 1, 1) := by decide +kernel
theorem d_M_object_66 : decode b_M_object 66 = .ok (.if_icmp .eq 6, 3) := by decide +kernel
theorem d_M_object_69 : decode b_M_object 69 = .ok (.goto 43, 3) := by decide +kernel
theorem d_M_object_72 : decode b_M_object 72 = .ok (.iload_n 2, 1) := by decide +kernel
theorem d_M_object_73 : decode b_M_object 73 = .ok (.iload 4, 2) := by decide +kernel
theorem d_M_object_75 : decode b_M_object 75 = .ok (.aload_n 0, 1) := by decide +kernel
theorem d_M_object_76 : decode b_M_object 76 = .ok (.getfield 39, 3) := by decide +kernel
theorem d_M_object_79 : decode b_M_object 79 = .ok (.iload 5, 2) := by decide +kernel
theorem d_M_object_81 : decode b_M_object 81 = .ok (.iaload, 1) := by decide +kernel
theorem d_M_object_82 : decode b_M_object 82 = .ok (.iadd, 1) := by decide +kernel
theorem d_M_object_83 : decode b_M_object 83 = .ok (.if_icmp .ge 17, 3) := by decide +kernel
theorem d_M_object_86 : decode b_M_object 86 = .ok (.aload_n 0, 1) := by decide +kernel
theorem d_M_object_87 : decode b_M_object 87 = .ok (.iload 5, 2) := by decide +kernel
theorem d_M_object_89 : decode b_M_object 89 = .ok (.iload_n 2, 1) := by decide +kernel
theorem d_M_object_90 : decode b_M_object 90 = .ok (.iload 4, 2) := by decide +kernel
theorem d_M_object_92 : decode b_M_object 92 = .ok (.isub, 1) := by decide +kernel
theorem d_M_object_93 : decode b_M_object 93 = .ok (.iload 4, 2) := by decide +kernel
theorem d_M_object_95 : decode b_M_object 95 = .ok (.iload_n 3, 1) := by decide +kernel
theorem d_M_object_96 : decode b_M_object 96 = .ok (.invokevirtual 214, 3) := by decide +kernel
theorem d_M_object_99 : decode b_M_object 99 = .ok (.ireturn, 1) := by decide +kernel
theorem d_M_object_100 : decode b_M_object 100 = .ok (.iload 4, 2) := by decide +kernel
theorem d_M_object_102 : decode b_M_object 102 = .ok (.aload_n 0, 1) := by decide +kernel
theorem d_M_object_103 : decode b_M_object 103 = .ok (.getfield 39, 3) := by decide +kernel
theorem d_M_object_106 : decode b_M_object 106 = .ok (.iload 5, 2) := by decide +kernel
theorem d_M_object_108 : decode b_M_object 108 = .ok (.iaload, 1) := by decide +kernel
theorem d_M_object_109 : decode b_M_object 109 = .ok (.iadd, 1) := by decide +kernel
theorem d_M_object_110 : decode b_M_object 110 = .ok (.istore 4, 2) := by decide +kernel
theorem d_M_object_112 : decode b_M_object 112 = .ok (.iinc 5 1, 3) := by decide +kernel
theorem d_M_object_115 : decode b_M_object 115 = .ok (.goto (-66), 3) := by decide +kernel
theorem d_M_object_118 : decode b_M_object 118 = .ok (.bipush (-2), 2) := by decide +kernel
theorem d_M_object_120 : decode b_M_object 120 = .ok (.ireturn, 1) := by decide +kernel
theorem d_M_isBelow_0 : decode b_M_isBelow 0 = .ok (.iload_n 2, 1) := by decide +kernel
theorem d_M_isBelow_1 : decode b_M_isBelow 1 = .ok (.istore 4, 2) := by decide +kernel
theorem d_M_isBelow_3 : decode b_M_isBelow 3 = .ok (.iload 4, 2) := by decide +kernel
theorem d_M_isBelow_5 : decode b_M_isBelow 5 = .ok (.ifCond .lt 28, 3) := by decide +kernel
theorem d_M_isBelow_8 : decode b_M_isBelow 8 = .ok (.iload 4, 2) := by decide +kernel
theorem d_M_isBelow_10 : decode b_M_isBelow 10 = .ok (.iload_n 3, 1) := by decide +kernel
theorem d_M_isBelow_11 : decode b_M_isBelow 11 = .ok (.if_icmp .eq 22, 3) := by decide +kernel
theorem d_M_isBelow_14 : decode b_M_isBelow 14 = .ok (.aload_n 0, 1) := by decide +kernel
theorem d_M_isBelow_15 : decode b_M_isBelow 15 = .ok (.getfield 61, 3) := by decide +kernel
theorem d_M_isBelow_18 : decode b_M_isBelow 18 = .ok (.aload_n 0, 1) := by decide +kernel
theorem d_M_isBelow_19 : decode b_M_isBelow 19 = .ok (.getfield 36, 3) := by decide +kernel
theorem d_M_isBelow_22 : decode b_M_isBelow 22 = .ok (.iload_n 1, 1) := by decide +kernel
theorem d_M_isBelow_23 : decode b_M_isBelow 23 = .ok (.iaload, 1) := by decide +kernel
theorem d_M_isBelow_24 : decode b_M_isBelow 24 = .ok (.iload 4, 2) := by decide +kernel
theorem d_M_isBelow_26 : decode b_M_isBelow 26 = .ok (.iadd, 1) := by decide +kernel
theorem d_M_isBelow_27 : decode b_M_isBelow 27 = .ok (.iaload, 1) := by decide +kernel
theorem d_M_isBelow_28 : decode b_M_isBelow 28 = .ok (.istore 4, 2) := by decide +kernel
theorem d_M_isBelow_30 : decode b_M_isBelow 30 = .ok (.goto (-27), 3) := by decide +kernel
theorem d_M_isBelow_33 : decode b_M_isBelow 33 = .ok (.iload 4, 2) := by decide +kernel
theorem d_M_isBelow_35 : decode b_M_isBelow 35 = .ok (.iload_n 3, 1) := by decide +kernel
theorem d_M_isBelow_36 : decode b_M_isBelow 36 = .ok (.if_icmp .ne 7, 3) := by decide +kernel
theorem d_M_isBelow_39 : decode b_M_isBelow 39 = .ok (.iconst 1, 1) := by decide +kernel
theorem d_M_isBelow_40 : decode b_M_isBelow 40 = .ok (.goto 4, 3) := by decide +kernel
theorem d_M_isBelow_43 : decode b_M_isBelow 43 = .ok (.iconst 0, 1) := by decide +kernel
theorem d_M_isBelow_44 : decode b_M_isBelow 44 = .ok (.ireturn, 1) := by decide +kernel
theorem d_M_told_0 : decode b_M_told 0 = .ok (.aload_n 0, 1) := by decide +kernel
theorem d_M_told_1 : decode b_M_told 1 = .ok (.getfield 36, 3) := by decide +kernel
theorem d_M_told_4 : decode b_M_told 4 = .ok (.iload_n 1, 1) := by decide +kernel
theorem d_M_told_5 : decode b_M_told 5 = .ok (.iaload, 1) := by decide +kernel
theorem d_M_told_6 : decode b_M_told 6 = .ok (.iload_n 2, 1) := by decide +kernel
theorem d_M_told_7 : decode b_M_told 7 = .ok (.iadd, 1) := by decide +kernel
theorem d_M_told_8 : decode b_M_told 8 = .ok (.istore 5, 2) := by decide +kernel
theorem d_M_told_10 : decode b_M_told 10 = .ok (.iload 4, 2) := by decide +kernel
theorem d_M_told_12 : decode b_M_told 12 = .ok (.bipush 9, 2) := by decide +kernel
theorem d_M_told_14 : decode b_M_told 14 = .ok (.if_icmp .le 63, 3) := by decide +kernel
theorem d_M_told_17 : decode b_M_told 17 = .ok (.iconst 4, 1) := by decide +kernel
theorem d_M_told_18 : decode b_M_told 18 = .ok (.iload 5, 2) := by decide +kernel
theorem d_M_told_20 : decode b_M_told 20 = .ok (.imul, 1) := by decide +kernel
theorem d_M_told_21 : decode b_M_told 21 = .ok (.iload 4, 2) := by decide +kernel
theorem d_M_told_23 : decode b_M_told 23 = .ok (.iadd, 1) := by decide +kernel
theorem d_M_told_24 : decode b_M_told 24 = .ok (.bipush 10, 2) := by decide +kernel
theorem d_M_told_26 : decode b_M_told 26 = .ok (.isub, 1) := by decide +kernel
theorem d_M_told_27 : decode b_M_told 27 = .ok (.istore 6, 2) := by decide +kernel
theorem d_M_told_29 : decode b_M_told 29 = .ok (.aload_n 0, 1) := by decide +kernel
theorem d_M_told_30 : decode b_M_told 30 = .ok (.getfield 64, 3) := by decide +kernel
theorem d_M_told_33 : decode b_M_told 33 = .ok (.iload 6, 2) := by decide +kernel
theorem d_M_told_35 : decode b_M_told 35 = .ok (.iaload, 1) := by decide +kernel
theorem d_M_told_36 : decode b_M_told 36 = .ok (.ifCond .ne 8, 3) := by decide +kernel
theorem d_M_told_39 : decode b_M_told 39 = .ok (.bipush (-2), 2) := by decide +kernel
theorem d_M_told_41 : decode b_M_told 41 = .ok (.goto 35, 3) := by decide +kernel
theorem d_M_told_44 : decode b_M_told 44 = .ok (.aload_n 0, 1) := by decide +kernel
theorem d_M_told_45 : decode b_M_told 45 = .ok (.getfield 64, 3) := by decide +kernel
theorem d_M_told_48 : decode b_M_told 48 = .ok (.iload 6, 2) := by decide +kernel
theorem d_M_told_50 : decode b_M_told 50 = .ok (.iaload, 1) := by decide +kernel
theorem d_M_told_51 : decode b_M_told 51 = .ok (.iconst 1, 1) := by decide +kernel
theorem d_M_told_52 : decode b_M_told 52 = .ok (.if_icmp .ne 13, 3) := by decide +kernel
theorem d_M_told_55 : decode b_M_told 55 = .ok (.aload_n 0, 1) := by decide +kernel
theorem d_M_told_56 : decode b_M_told 56 = .ok (.getfield 67, 3) := by decide +kernel
theorem d_M_told_59 : decode b_M_told 59 = .ok (.iload 6, 2) := by decide +kernel
theorem d_M_told_61 : decode b_M_told 61 = .ok (.iaload, 1) := by decide +kernel
theorem d_M_told_62 : decode b_M_told 62 = .ok (.goto 14, 3) := by decide +kernel
theorem d_M_told_65 : decode b_M_told 65 = .ok (.sipush 2000, 3) := by decide +kernel
theorem d_M_told_68 : decode b_M_told 68 = .ok (.aload_n 0, 1) := by decide +kernel
theorem d_M_told_69 : decode b_M_told 69 = .ok (.getfield 67, 3) := by decide +kernel
theorem d_M_told_72 : decode b_M_told 72 = .ok (.iload 6, 2) := by decide +kernel
theorem d_M_told_74 : decode b_M_told 74 = .ok (.iaload, 1) := by decide +kernel
theorem d_M_told_75 : decode b_M_told 75 = .ok (.iadd, 1) := by decide +kernel
theorem d_M_told_76 : decode b_M_told 76 = .ok (.ireturn, 1) := by decide +kernel
theorem d_M_told_77 : decode b_M_told 77 = .ok (.iload 4, 2) := by decide +kernel
theorem d_M_told_79 : decode b_M_told 79 = .ok (.tableswitch 84 0 3 #[29, 37, 62, 69], 29) := by decide +kernel
theorem d_M_told_108 : decode b_M_told 108 = .ok (.aload_n 0, 1) := by decide +kernel
theorem d_M_told_109 : decode b_M_told 109 = .ok (.getfield 58, 3) := by decide +kernel
theorem d_M_told_112 : decode b_M_told 112 = .ok (.iload 5, 2) := by decide +kernel
theorem d_M_told_114 : decode b_M_told 114 = .ok (.iaload, 1) := by decide +kernel
theorem d_M_told_115 : decode b_M_told 115 = .ok (.ireturn, 1) := by decide +kernel
theorem d_M_told_116 : decode b_M_told 116 = .ok (.aload_n 0, 1) := by decide +kernel
theorem d_M_told_117 : decode b_M_told 117 = .ok (.getfield 61, 3) := by decide +kernel
theorem d_M_told_120 : decode b_M_told 120 = .ok (.iload 5, 2) := by decide +kernel
theorem d_M_told_122 : decode b_M_told 122 = .ok (.iaload, 1) := by decide +kernel
theorem d_M_told_123 : decode b_M_told 123 = .ok (.ifCond .ge 8, 3) := by decide +kernel
theorem d_M_told_126 : decode b_M_told 126 = .ok (.bipush (-2), 2) := by decide +kernel
theorem d_M_told_128 : decode b_M_told 128 = .ok (.goto 12, 3) := by decide +kernel
theorem d_M_told_131 : decode b_M_told 131 = .ok (.iload_n 3, 1) := by decide +kernel
theorem d_M_told_132 : decode b_M_told 132 = .ok (.aload_n 0, 1) := by decide +kernel
theorem d_M_told_133 : decode b_M_told 133 = .ok (.getfield 61, 3) := by decide +kernel
theorem d_M_told_136 : decode b_M_told 136 = .ok (.iload 5, 2) := by decide +kernel
theorem d_M_told_138 : decode b_M_told 138 = .ok (.iaload, 1) := by decide +kernel
theorem d_M_told_139 : decode b_M_told 139 = .ok (.iadd, 1) := by decide +kernel
theorem d_M_told_140 : decode b_M_told 140 = .ok (.ireturn, 1) := by decide +kernel
theorem d_M_told_141 : decode b_M_told 141 = .ok (.aload_n 0, 1) := by decide +kernel
theorem d_M_told_142 : decode b_M_told 142 = .ok (.getfield 42, 3) := by decide +kernel
theorem d_M_told_145 : decode b_M_told 145 = .ok (.iload_n 1, 1) := by decide +kernel
theorem d_M_told_146 : decode b_M_told 146 = .ok (.iaload, 1) := by decide +kernel
theorem d_M_told_147 : decode b_M_told 147 = .ok (.ireturn, 1) := by decide +kernel
theorem d_M_told_148 : decode b_M_told 148 = .ok (.aload_n 0, 1) := by decide +kernel
theorem d_M_told_149 : decode b_M_told 149 = .ok (.getfield 51, 3) := by decide +kernel
theorem d_M_told_152 : decode b_M_told 152 = .ok (.iload_n 1, 1) := by decide +kernel
theorem d_M_told_153 : decode b_M_told 153 = .ok (.baload, 1) := by decide +kernel
theorem d_M_told_154 : decode b_M_told 154 = .ok (.ifCond .eq 7, 3) := by decide +kernel
theorem d_M_told_157 : decode b_M_told 157 = .ok (.iconst 1, 1) := by decide +kernel
theorem d_M_told_158 : decode b_M_told 158 = .ok (.goto 4, 3) := by decide +kernel
theorem d_M_told_161 : decode b_M_told 161 = .ok (.iconst 0, 1) := by decide +kernel
theorem d_M_told_162 : decode b_M_told 162 = .ok (.ireturn, 1) := by decide +kernel
theorem d_M_told_163 : decode b_M_told 163 = .ok (.iload_n 2, 1) := by decide +kernel
theorem d_M_told_164 : decode b_M_told 164 = .ok (.istore 6, 2) := by decide +kernel
theorem d_M_told_166 : decode b_M_told 166 = .ok (.iload_n 2, 1) := by decide +kernel
theorem d_M_told_167 : decode b_M_told 167 = .ok (.istore 7, 2) := by decide +kernel
theorem d_M_told_169 : decode b_M_told 169 = .ok (.iload 7, 2) := by decide +kernel
theorem d_M_told_171 : decode b_M_told 171 = .ok (.ifCond .lt 24, 3) := by decide +kernel
theorem d_M_told_174 : decode b_M_told 174 = .ok (.aload_n 0, 1) := by decide +kernel
theorem d_M_told_175 : decode b_M_told 175 = .ok (.iload_n 1, 1) := by decide +kernel
theorem d_M_told_176 : decode b_M_told 176 = .ok (.iload 7, 2) := by decide +kernel
theorem d_M_told_178 : decode b_M_told 178 = .ok (.iload_n 2, 1) := by decide +kernel
theorem d_M_told_179 : decode b_M_told 179 = .ok (.invokevirtual 218, 3) := by decide +kernel
theorem d_M_told_182 : decode b_M_told 182 = .ok (.ifCond .eq 7, 3) := by decide +kernel
theorem d_M_told_185 : decode b_M_told 185 = .ok (.iload 7, 2) := by decide +kernel
theorem d_M_told_187 : decode b_M_told 187 = .ok (.istore 6, 2) := by decide +kernel
theorem d_M_told_189 : decode b_M_told 189 = .ok (.iinc 7 (-1), 3) := by decide +kernel
theorem d_M_told_192 : decode b_M_told 192 = .ok (.goto (-23), 3) := by decide +kernel
theorem d_M_told_195 : decode b_M_told 195 = .ok (.iload_n 3, 1) := by decide +kernel
theorem d_M_told_196 : decode b_M_told 196 = .ok (.iload 6, 2) := by decide +kernel
theorem d_M_told_198 : decode b_M_told 198 = .ok (.iadd, 1) := by decide +kernel
theorem d_M_told_199 : decode b_M_told 199 = .ok (.ireturn, 1) := by decide +kernel
theorem d_M_type_0 : decode b_M_type 0 = .ok (.iload_n 1, 1) := by decide +kernel
theorem d_M_type_1 : decode b_M_type 1 = .ok (.iconst 0, 1) := by decide +kernel
theorem d_M_type_2 : decode b_M_type 2 = .ok (.iconst 3, 1) := by decide +kernel
theorem d_M_type_3 : decode b_M_type 3 = .ok (.invokestatic 118, 3) := by decide +kernel
theorem d_M_type_6 : decode b_M_type 6 = .ok (.ifCond .eq 25, 3) := by decide +kernel
theorem d_M_type_9 : decode b_M_type 9 = .ok (.iload_n 2, 1) := by decide +kernel
theorem d_M_type_10 : decode b_M_type 10 = .ok (.iconst 0, 1) := by decide +kernel
theorem d_M_type_11 : decode b_M_type 11 = .ok (.iconst 3, 1) := by decide +kernel
theorem d_M_type_12 : decode b_M_type 12 = .ok (.invokestatic 118, 3) := by decide +kernel
theorem d_M_type_15 : decode b_M_type 15 = .ok (.ifCond .eq 16, 3) := by decide +kernel
theorem d_M_type_18 : decode b_M_type 18 = .ok (.aload_n 0, 1) := by decide +kernel
theorem d_M_type_19 : decode b_M_type 19 = .ok (.getfield 33, 3) := by decide +kernel
theorem d_M_type_22 : decode b_M_type 22 = .ok (.iconst 4, 1) := by decide +kernel
theorem d_M_type_23 : decode b_M_type 23 = .ok (.iload_n 1, 1) := by decide +kernel
theorem d_M_type_24 : decode b_M_type 24 = .ok (.imul, 1) := by decide +kernel
theorem d_M_type_25 : decode b_M_type 25 = .ok (.iload_n 2, 1) := by decide +kernel
theorem d_M_type_26 : decode b_M_type 26 = .ok (.iadd, 1) := by decide +kernel
theorem d_M_type_27 : decode b_M_type 27 = .ok (.iaload, 1) := by decide +kernel
theorem d_M_type_28 : decode b_M_type 28 = .ok (.goto 4, 3) := by decide +kernel
theorem d_M_type_31 : decode b_M_type 31 = .ok (.iconst (-1), 1) := by decide +kernel
theorem d_M_type_32 : decode b_M_type 32 = .ok (.ireturn, 1) := by decide +kernel
theorem d_M_inSegment_0 : decode b_M_inSegment 0 = .ok (.iconst 0, 1) := by decide +kernel
theorem d_M_inSegment_1 : decode b_M_inSegment 1 = .ok (.istore_n 3, 1) := by decide +kernel
theorem d_M_inSegment_2 : decode b_M_inSegment 2 = .ok (.iconst 0, 1) := by decide +kernel
theorem d_M_inSegment_3 : decode b_M_inSegment 3 = .ok (.istore 4, 2) := by decide +kernel
theorem d_M_inSegment_5 : decode b_M_inSegment 5 = .ok (.iload 4, 2) := by decide +kernel
theorem d_M_inSegment_7 : decode b_M_inSegment 7 = .ok (.aload_n 0, 1) := by decide +kernel
theorem d_M_inSegment_8 : decode b_M_inSegment 8 = .ok (.getfield 132, 3) := by decide +kernel
theorem d_M_inSegment_11 : decode b_M_inSegment 11 = .ok (.if_icmp .ge 52, 3) := by decide +kernel
theorem d_M_inSegment_14 : decode b_M_inSegment 14 = .ok (.aload_n 0, 1) := by decide +kernel
theorem d_M_inSegment_15 : decode b_M_inSegment 15 = .ok (.getfield 45, 3) := by decide +kernel
theorem d_M_inSegment_18 : decode b_M_inSegment 18 = .ok (.iload 4, 2) := by decide +kernel
theorem d_M_inSegment_20 : decode b_M_inSegment 20 = .ok (.iaload, 1) := by decide +kernel
theorem d_M_inSegment_21 : decode b_M_inSegment 21 = .ok (.iload_n 1, 1) := by decide +kernel
theorem d_M_inSegment_22 : decode b_M_inSegment 22 = .ok (.if_icmp .ne 35, 3) := by decide +kernel
theorem d_M_inSegment_25 : decode b_M_inSegment 25 = .ok (.iload_n 3, 1) := by decide +kernel
theorem d_M_inSegment_26 : decode b_M_inSegment 26 = .ok (.iload_n 2, 1) := by decide +kernel
theorem d_M_inSegment_27 : decode b_M_inSegment 27 = .ok (.ifCond .ne 13, 3) := by decide +kernel
theorem d_M_inSegment_30 : decode b_M_inSegment 30 = .ok (.aload_n 0, 1) := by decide +kernel
theorem d_M_inSegment_31 : decode b_M_inSegment 31 = .ok (.getfield 39, 3) := by decide +kernel
theorem d_M_inSegment_34 : decode b_M_inSegment 34 = .ok (.iload 4, 2) := by decide +kernel
theorem d_M_inSegment_36 : decode b_M_inSegment 36 = .ok (.iaload, 1) := by decide +kernel
theorem d_M_inSegment_37 : decode b_M_inSegment 37 = .ok (.goto 18, 3) := by decide +kernel
theorem d_M_inSegment_40 : decode b_M_inSegment 40 = .ok (.aload_n 0, 1) := by decide +kernel
theorem d_M_inSegment_41 : decode b_M_inSegment 41 = .ok (.getfield 51, 3) := by decide +kernel
theorem d_M_inSegment_44 : decode b_M_inSegment 44 = .ok (.iload 4, 2) := by decide +kernel
theorem d_M_inSegment_46 : decode b_M_inSegment 46 = .ok (.baload, 1) := by decide +kernel
theorem d_M_inSegment_47 : decode b_M_inSegment 47 = .ok (.ifCond .eq 7, 3) := by decide +kernel
theorem d_M_inSegment_50 : decode b_M_inSegment 50 = .ok (.iconst 1, 1) := by decide +kernel
theorem d_M_inSegment_51 : decode b_M_inSegment 51 = .ok (.goto 4, 3) := by decide +kernel
theorem d_M_inSegment_54 : decode b_M_inSegment 54 = .ok (.iconst 0, 1) := by decide +kernel
theorem d_M_inSegment_55 : decode b_M_inSegment 55 = .ok (.iadd, 1) := by decide +kernel
theorem d_M_inSegment_56 : decode b_M_inSegment 56 = .ok (.istore_n 3, 1) := by decide +kernel
theorem d_M_inSegment_57 : decode b_M_inSegment 57 = .ok (.iinc 4 1, 3) := by decide +kernel
theorem d_M_inSegment_60 : decode b_M_inSegment 60 = .ok (.goto (-55), 3) := by decide +kernel
theorem d_M_inSegment_63 : decode b_M_inSegment 63 = .ok (.iload_n 3, 1) := by decide +kernel
theorem d_M_inSegment_64 : decode b_M_inSegment 64 = .ok (.ireturn, 1) := by decide +kernel
theorem d_M_counted_0 : decode b_M_counted 0 = .ok (.iconst 0, 1) := by decide +kernel
theorem d_M_counted_1 : decode b_M_counted 1 = .ok (.istore_n 2, 1) := by decide +kernel
theorem d_M_counted_2 : decode b_M_counted 2 = .ok (.iconst 0, 1) := by decide +kernel
theorem d_M_counted_3 : decode b_M_counted 3 = .ok (.istore_n 3, 1) := by decide +kernel
theorem d_M_counted_4 : decode b_M_counted 4 = .ok (.iload_n 3, 1) := by decide +kernel
theorem d_M_counted_5 : decode b_M_counted 5 = .ok (.aload_n 0, 1) := by decide +kernel
theorem d_M_counted_6 : decode b_M_counted 6 = .ok (.getfield 132, 3) := by decide +kernel
theorem d_M_counted_9 : decode b_M_counted 9 = .ok (.if_icmp .ge 97, 3) := by decide +kernel
theorem d_M_counted_12 : decode b_M_counted 12 = .ok (.iload_n 1, 1) := by decide +kernel
theorem d_M_counted_13 : decode b_M_counted 13 = .ok (.iconst 3, 1) := by decide +kernel
theorem d_M_counted_14 : decode b_M_counted 14 = .ok (.if_icmp .ne 31, 3) := by decide +kernel
theorem d_M_counted_17 : decode b_M_counted 17 = .ok (.aload_n 0, 1) := by decide +kernel
theorem d_M_counted_18 : decode b_M_counted 18 = .ok (.getfield 45, 3) := by decide +kernel
theorem d_M_counted_21 : decode b_M_counted 21 = .ok (.iload_n 3, 1) := by decide +kernel
theorem d_M_counted_22 : decode b_M_counted 22 = .ok (.iaload, 1) := by decide +kernel
theorem d_M_counted_23 : decode b_M_counted 23 = .ok (.bipush (-2), 2) := by decide +kernel
theorem d_M_counted_25 : decode b_M_counted 25 = .ok (.if_icmp .eq 16, 3) := by decide +kernel
theorem d_M_counted_28 : decode b_M_counted 28 = .ok (.aload_n 0, 1) := by decide +kernel
theorem d_M_counted_29 : decode b_M_counted 29 = .ok (.getfield 51, 3) := by decide +kernel
theorem d_M_counted_32 : decode b_M_counted 32 = .ok (.iload_n 3, 1) := by decide +kernel
theorem d_M_counted_33 : decode b_M_counted 33 = .ok (.baload, 1) := by decide +kernel
theorem d_M_counted_34 : decode b_M_counted 34 = .ok (.ifCond .eq 7, 3) := by decide +kernel
theorem d_M_counted_37 : decode b_M_counted 37 = .ok (.iconst 1, 1) := by decide +kernel
theorem d_M_counted_38 : decode b_M_counted 38 = .ok (.goto 52, 3) := by decide +kernel
theorem d_M_counted_41 : decode b_M_counted 41 = .ok (.iconst 0, 1) := by decide +kernel
theorem d_M_counted_42 : decode b_M_counted 42 = .ok (.goto 48, 3) := by decide +kernel
theorem d_M_counted_45 : decode b_M_counted 45 = .ok (.iload_n 1, 1) := by decide +kernel
theorem d_M_counted_46 : decode b_M_counted 46 = .ok (.iconst 4, 1) := by decide +kernel
theorem d_M_counted_47 : decode b_M_counted 47 = .ok (.if_icmp .ne 29, 3) := by decide +kernel
theorem d_M_counted_50 : decode b_M_counted 50 = .ok (.aload_n 0, 1) := by decide +kernel
theorem d_M_counted_51 : decode b_M_counted 51 = .ok (.getfield 45, 3) := by decide +kernel
theorem d_M_counted_54 : decode b_M_counted 54 = .ok (.iload_n 3, 1) := by decide +kernel
theorem d_M_counted_55 : decode b_M_counted 55 = .ok (.iaload, 1) := by decide +kernel
theorem d_M_counted_56 : decode b_M_counted 56 = .ok (.ifCond .lt 16, 3) := by decide +kernel
theorem d_M_counted_59 : decode b_M_counted 59 = .ok (.aload_n 0, 1) := by decide +kernel
theorem d_M_counted_60 : decode b_M_counted 60 = .ok (.getfield 51, 3) := by decide +kernel
theorem d_M_counted_63 : decode b_M_counted 63 = .ok (.iload_n 3, 1) := by decide +kernel
theorem d_M_counted_64 : decode b_M_counted 64 = .ok (.baload, 1) := by decide +kernel
theorem d_M_counted_65 : decode b_M_counted 65 = .ok (.ifCond .ne 7, 3) := by decide +kernel
theorem d_M_counted_68 : decode b_M_counted 68 = .ok (.iconst 1, 1) := by decide +kernel
theorem d_M_counted_69 : decode b_M_counted 69 = .ok (.goto 21, 3) := by decide +kernel
theorem d_M_counted_72 : decode b_M_counted 72 = .ok (.iconst 0, 1) := by decide +kernel
theorem d_M_counted_73 : decode b_M_counted 73 = .ok (.goto 17, 3) := by decide +kernel
theorem d_M_counted_76 : decode b_M_counted 76 = .ok (.aload_n 0, 1) := by decide +kernel
theorem d_M_counted_77 : decode b_M_counted 77 = .ok (.getfield 48, 3) := by decide +kernel
theorem d_M_counted_80 : decode b_M_counted 80 = .ok (.iload_n 3, 1) := by decide +kernel
theorem d_M_counted_81 : decode b_M_counted 81 = .ok (.iaload, 1) := by decide +kernel
theorem d_M_counted_82 : decode b_M_counted 82 = .ok (.ifCond .lt 7, 3) := by decide +kernel
theorem d_M_counted_85 : decode b_M_counted 85 = .ok (.iconst 1, 1) := by decide +kernel
theorem d_M_counted_86 : decode b_M_counted 86 = .ok (.goto 4, 3) := by decide +kernel
theorem d_M_counted_89 : decode b_M_counted 89 = .ok (.iconst 0, 1) := by decide +kernel
theorem d_M_counted_90 : decode b_M_counted 90 = .ok (.istore 4, 2) := by decide +kernel
theorem d_M_counted_92 : decode b_M_counted 92 = .ok (.iload 4, 2) := by decide +kernel
theorem d_M_counted_94 : decode b_M_counted 94 = .ok (.ifCond .eq 6, 3) := by decide +kernel
theorem d_M_counted_97 : decode b_M_counted 97 = .ok (.iinc 2 1, 3) := by decide +kernel
theorem d_M_counted_100 : decode b_M_counted 100 = .ok (.iinc 3 1, 3) := by decide +kernel
theorem d_M_counted_103 : decode b_M_counted 103 = .ok (.goto (-99), 3) := by decide +kernel
theorem d_M_counted_106 : decode b_M_counted 106 = .ok (.iload_n 2, 1) := by decide +kernel
theorem d_M_counted_107 : decode b_M_counted 107 = .ok (.ireturn, 1) := by decide +kernel
theorem d_M_count_0 : decode b_M_count 0 = .ok (.iload_n 1, 1) := by decide +kernel
theorem d_M_count_1 : decode b_M_count 1 = .ok (.bipush 20, 2) := by decide +kernel
theorem d_M_count_3 : decode b_M_count 3 = .ok (.bipush 25, 2) := by decide +kernel
theorem d_M_count_5 : decode b_M_count 5 = .ok (.invokestatic 118, 3) := by decide +kernel
theorem d_M_count_8 : decode b_M_count 8 = .ok (.ifCond .eq 29, 3) := by decide +kernel
theorem d_M_count_11 : decode b_M_count 11 = .ok (.iload_n 1, 1) := by decide +kernel
theorem d_M_count_12 : decode b_M_count 12 = .ok (.bipush 20, 2) := by decide +kernel
theorem d_M_count_14 : decode b_M_count 14 = .ok (.isub, 1) := by decide +kernel
theorem d_M_count_15 : decode b_M_count 15 = .ok (.aload_n 0, 1) := by decide +kernel
theorem d_M_count_16 : decode b_M_count 16 = .ok (.getfield 159, 3) := by decide +kernel
theorem d_M_count_19 : decode b_M_count 19 = .ok (.if_icmp .ge 15, 3) := by decide +kernel
theorem d_M_count_22 : decode b_M_count 22 = .ok (.aload_n 0, 1) := by decide +kernel
theorem d_M_count_23 : decode b_M_count 23 = .ok (.iload_n 1, 1) := by decide +kernel
theorem d_M_count_24 : decode b_M_count 24 = .ok (.bipush 20, 2) := by decide +kernel
theorem d_M_count_26 : decode b_M_count 26 = .ok (.isub, 1) := by decide +kernel
theorem d_M_count_27 : decode b_M_count 27 = .ok (.iconst 0, 1) := by decide +kernel
theorem d_M_count_28 : decode b_M_count 28 = .ok (.invokevirtual 221, 3) := by decide +kernel
theorem d_M_count_31 : decode b_M_count 31 = .ok (.goto 5, 3) := by decide +kernel
theorem d_M_count_34 : decode b_M_count 34 = .ok (.bipush (-2), 2) := by decide +kernel
theorem d_M_count_36 : decode b_M_count 36 = .ok (.ireturn, 1) := by decide +kernel
theorem d_M_count_37 : decode b_M_count 37 = .ok (.iload_n 1, 1) := by decide +kernel
theorem d_M_count_38 : decode b_M_count 38 = .ok (.bipush 30, 2) := by decide +kernel
theorem d_M_count_40 : decode b_M_count 40 = .ok (.bipush 35, 2) := by decide +kernel
theorem d_M_count_42 : decode b_M_count 42 = .ok (.invokestatic 118, 3) := by decide +kernel
theorem d_M_count_45 : decode b_M_count 45 = .ok (.ifCond .eq 29, 3) := by decide +kernel
theorem d_M_count_48 : decode b_M_count 48 = .ok (.iload_n 1, 1) := by decide +kernel
theorem d_M_count_49 : decode b_M_count 49 = .ok (.bipush 30, 2) := by decide +kernel
theorem d_M_count_51 : decode b_M_count 51 = .ok (.isub, 1) := by decide +kernel
theorem d_M_count_52 : decode b_M_count 52 = .ok (.aload_n 0, 1) := by decide +kernel
theorem d_M_count_53 : decode b_M_count 53 = .ok (.getfield 159, 3) := by decide +kernel
theorem d_M_count_56 : decode b_M_count 56 = .ok (.if_icmp .ge 15, 3) := by decide +kernel
theorem d_M_count_59 : decode b_M_count 59 = .ok (.aload_n 0, 1) := by decide +kernel
theorem d_M_count_60 : decode b_M_count 60 = .ok (.iload_n 1, 1) := by decide +kernel
theorem d_M_count_61 : decode b_M_count 61 = .ok (.bipush 30, 2) := by decide +kernel
theorem d_M_count_63 : decode b_M_count 63 = .ok (.isub, 1) := by decide +kernel
theorem d_M_count_64 : decode b_M_count 64 = .ok (.iconst 1, 1) := by decide +kernel
theorem d_M_count_65 : decode b_M_count 65 = .ok (.invokevirtual 221, 3) := by decide +kernel
theorem d_M_count_68 : decode b_M_count 68 = .ok (.goto 5, 3) := by decide +kernel
theorem d_M_count_71 : decode b_M_count 71 = .ok (.bipush (-2), 2) := by decide +kernel
theorem d_M_count_73 : decode b_M_count 73 = .ok (.ireturn, 1) := by decide +kernel
theorem d_M_count_74 : decode b_M_count 74 = .ok (.iload_n 1, 1) := by decide +kernel
theorem d_M_count_75 : decode b_M_count 75 = .ok (.tableswitch 94 0 9 #[53, 58, 63, 68, 68, 74, 79, 68, 84, 89], 53) := by decide +kernel
theorem d_M_count_128 : decode b_M_count 128 = .ok (.aload_n 0, 1) := by decide +kernel
theorem d_M_count_129 : decode b_M_count 129 = .ok (.getfield 159, 3) := by decide +kernel
theorem d_M_count_132 : decode b_M_count 132 = .ok (.ireturn, 1) := by decide +kernel
theorem d_M_count_133 : decode b_M_count 133 = .ok (.aload_n 0, 1) := by decide +kernel
theorem d_M_count_134 : decode b_M_count 134 = .ok (.getfield 122, 3) := by decide +kernel
theorem d_M_count_137 : decode b_M_count 137 = .ok (.ireturn, 1) := by decide +kernel
theorem d_M_count_138 : decode b_M_count 138 = .ok (.aload_n 0, 1) := by decide +kernel
theorem d_M_count_139 : decode b_M_count 139 = .ok (.invokevirtual 145, 3) := by decide +kernel
theorem d_M_count_142 : decode b_M_count 142 = .ok (.ireturn, 1) := by decide +kernel
theorem d_M_count_143 : decode b_M_count 143 = .ok (.aload_n 0, 1) := by decide +kernel
theorem d_M_count_144 : decode b_M_count 144 = .ok (.iload_n 1, 1) := by decide +kernel
theorem d_M_count_145 : decode b_M_count 145 = .ok (.invokevirtual 225, 3) := by decide +kernel
theorem d_M_count_148 : decode b_M_count 148 = .ok (.ireturn, 1) := by decide +kernel
theorem d_M_count_149 : decode b_M_count 149 = .ok (.aload_n 0, 1) := by decide +kernel
theorem d_M_count_150 : decode b_M_count 150 = .ok (.getfield 132, 3) := by decide +kernel
theorem d_M_count_153 : decode b_M_count 153 = .ok (.ireturn, 1) := by decide +kernel
theorem d_M_count_154 : decode b_M_count 154 = .ok (.aload_n 0, 1) := by decide +kernel
theorem d_M_count_155 : decode b_M_count 155 = .ok (.getfield 138, 3) := by decide +kernel
theorem d_M_count_158 : decode b_M_count 158 = .ok (.ireturn, 1) := by decide +kernel
theorem d_M_count_159 : decode b_M_count 159 = .ok (.aload_n 0, 1) := by decide +kernel
theorem d_M_count_160 : decode b_M_count 160 = .ok (.getfield 204, 3) := by decide +kernel
theorem d_M_count_163 : decode b_M_count 163 = .ok (.ireturn, 1) := by decide +kernel
theorem d_M_count_164 : decode b_M_count 164 = .ok (.aload_n 0, 1) := by decide +kernel
theorem d_M_count_165 : decode b_M_count 165 = .ok (.getfield 162, 3) := by decide +kernel
theorem d_M_count_168 : decode b_M_count 168 = .ok (.ireturn, 1) := by decide +kernel
theorem d_M_count_169 : decode b_M_count 169 = .ok (.iconst (-1), 1) := by decide +kernel
theorem d_M_count_170 : decode b_M_count 170 = .ok (.ireturn, 1) := by decide +kernel
theorem d_Do_init_0 : decode b_Do_init 0 = .ok (.aload_n 0, 1) := by decide +kernel
theorem d_Do_init_1 : decode b_Do_init 1 = .ok (.invokespecial 3, 3) := by decide +kernel
theorem d_Do_init_4 : decode b_Do_init 4 = .ok (.aload_n 0, 1) := by decide +kernel
theorem d_Do_init_5 : decode b_Do_init 5 = .ok (.iconst 1, 1) := by decide +kernel
theorem d_Do_init_6 : decode b_Do_init 6 = .ok (.putfield 9, 3) := by decide +kernel
theorem d_Do_init_9 : decode b_Do_init 9 = .ok (.aload_n 0, 1) := by decide +kernel
theorem d_Do_init_10 : decode b_Do_init 10 = .ok (.iload_n 1, 1) := by decide +kernel
theorem d_Do_init_11 : decode b_Do_init 11 = .ok (.putfield 15, 3) := by decide +kernel
theorem d_Do_init_14 : decode b_Do_init 14 = .ok (.aload_n 0, 1) := by decide +kernel
theorem d_Do_init_15 : decode b_Do_init 15 = .ok (.aload_n 2, 1) := by decide +kernel
theorem d_Do_init_16 : decode b_Do_init 16 = .ok (.getfield 19, 3) := by decide +kernel
theorem d_Do_init_19 : decode b_Do_init 19 = .ok (.anewarray 24, 3) := by decide +kernel
theorem d_Do_init_22 : decode b_Do_init 22 = .ok (.putfield 26, 3) := by decide +kernel
theorem d_Do_init_25 : decode b_Do_init 25 = .ok (.iconst 0, 1) := by decide +kernel
theorem d_Do_init_26 : decode b_Do_init 26 = .ok (.istore_n 3, 1) := by decide +kernel
theorem d_Do_init_27 : decode b_Do_init 27 = .ok (.iload_n 3, 1) := by decide +kernel
theorem d_Do_init_28 : decode b_Do_init 28 = .ok (.aload_n 0, 1) := by decide +kernel
theorem d_Do_init_29 : decode b_Do_init 29 = .ok (.getfield 26, 3) := by decide +kernel
theorem d_Do_init_32 : decode b_Do_init 32 = .ok (.arraylength, 1) := by decide +kernel
theorem d_Do_init_33 : decode b_Do_init 33 = .ok (.if_icmp .ge 21, 3) := by decide +kernel
theorem d_Do_init_36 : decode b_Do_init 36 = .ok (.aload_n 0, 1) := by decide +kernel
theorem d_Do_init_37 : decode b_Do_init 37 = .ok (.getfield 26, 3) := by decide +kernel
theorem d_Do_init_40 : decode b_Do_init 40 = .ok (.iload_n 3, 1) := by decide +kernel
theorem d_Do_init_41 : decode b_Do_init 41 = .ok (.aload_n 2, 1) := by decide +kernel
theorem d_Do_init_42 : decode b_Do_init 42 = .ok (.getfield 30, 3) := by decide +kernel
theorem d_Do_init_45 : decode b_Do_init 45 = .ok (.iload_n 3, 1) := by decide +kernel
theorem d_Do_init_46 : decode b_Do_init 46 = .ok (.aaload, 1) := by decide +kernel
theorem d_Do_init_47 : decode b_Do_init 47 = .ok (.aastore, 1) := by decide +kernel
theorem d_Do_init_48 : decode b_Do_init 48 = .ok (.iinc 3 1, 3) := by decide +kernel
theorem d_Do_init_51 : decode b_Do_init 51 = .ok (.goto (-24), 3) := by decide +kernel
theorem d_Do_init_54 : decode b_Do_init 54 = .ok (.return_, 1) := by decide +kernel
theorem d_Do_factOf_0 : decode b_Do_factOf 0 = .ok (.aload_n 0, 1) := by decide +kernel
theorem d_Do_factOf_1 : decode b_Do_factOf 1 = .ok (.getfield 26, 3) := by decide +kernel
theorem d_Do_factOf_4 : decode b_Do_factOf 4 = .ok (.iload_n 1, 1) := by decide +kernel
theorem d_Do_factOf_5 : decode b_Do_factOf 5 = .ok (.aaload, 1) := by decide +kernel
theorem d_Do_factOf_6 : decode b_Do_factOf 6 = .ok (.astore 4, 2) := by decide +kernel
theorem d_Do_factOf_8 : decode b_Do_factOf 8 = .ok (.iload_n 3, 1) := by decide +kernel
theorem d_Do_factOf_9 : decode b_Do_factOf 9 = .ok (.tableswitch 91 0 4 #[35, 41, 65, 70, 83], 35) := by decide +kernel
theorem d_Do_factOf_44 : decode b_Do_factOf 44 = .ok (.aload 4, 2) := by decide +kernel
theorem d_Do_factOf_46 : decode b_Do_factOf 46 = .ok (.getfield 33, 3) := by decide +kernel
theorem d_Do_factOf_49 : decode b_Do_factOf 49 = .ok (.ireturn, 1) := by decide +kernel
theorem d_Do_factOf_50 : decode b_Do_factOf 50 = .ok (.aload 4, 2) := by decide +kernel
theorem d_Do_factOf_52 : decode b_Do_factOf 52 = .ok (.getfield 36, 3) := by decide +kernel
theorem d_Do_factOf_55 : decode b_Do_factOf 55 = .ok (.ifnonnull 8, 3) := by decide +kernel
theorem d_Do_factOf_58 : decode b_Do_factOf 58 = .ok (.bipush (-2), 2) := by decide +kernel
theorem d_Do_factOf_60 : decode b_Do_factOf 60 = .ok (.goto 13, 3) := by decide +kernel
theorem d_Do_factOf_63 : decode b_Do_factOf 63 = .ok (.iload_n 2, 1) := by decide +kernel
theorem d_Do_factOf_64 : decode b_Do_factOf 64 = .ok (.aload 4, 2) := by decide +kernel
theorem d_Do_factOf_66 : decode b_Do_factOf 66 = .ok (.getfield 36, 3) := by decide +kernel
theorem d_Do_factOf_69 : decode b_Do_factOf 69 = .ok (.getfield 40, 3) := by decide +kernel
theorem d_Do_factOf_72 : decode b_Do_factOf 72 = .ok (.iadd, 1) := by decide +kernel
theorem d_Do_factOf_73 : decode b_Do_factOf 73 = .ok (.ireturn, 1) := by decide +kernel
theorem d_Do_factOf_74 : decode b_Do_factOf 74 = .ok (.aload_n 0, 1) := by decide +kernel
theorem d_Do_factOf_75 : decode b_Do_factOf 75 = .ok (.getfield 15, 3) := by decide +kernel
theorem d_Do_factOf_78 : decode b_Do_factOf 78 = .ok (.ireturn, 1) := by decide +kernel
theorem d_Do_factOf_79 : decode b_Do_factOf 79 = .ok (.aload_n 0, 1) := by decide +kernel
theorem d_Do_factOf_80 : decode b_Do_factOf 80 = .ok (.getfield 9, 3) := by decide +kernel
theorem d_Do_factOf_83 : decode b_Do_factOf 83 = .ok (.ifCond .eq 7, 3) := by decide +kernel
theorem d_Do_factOf_86 : decode b_Do_factOf 86 = .ok (.iconst 1, 1) := by decide +kernel
theorem d_Do_factOf_87 : decode b_Do_factOf 87 = .ok (.goto 4, 3) := by decide +kernel
theorem d_Do_factOf_90 : decode b_Do_factOf 90 = .ok (.iconst 0, 1) := by decide +kernel
theorem d_Do_factOf_91 : decode b_Do_factOf 91 = .ok (.ireturn, 1) := by decide +kernel
theorem d_Do_factOf_92 : decode b_Do_factOf 92 = .ok (.iload_n 2, 1) := by decide +kernel
theorem d_Do_factOf_93 : decode b_Do_factOf 93 = .ok (.aload 4, 2) := by decide +kernel
theorem d_Do_factOf_95 : decode b_Do_factOf 95 = .ok (.getfield 43, 3) := by decide +kernel
theorem d_Do_factOf_98 : decode b_Do_factOf 98 = .ok (.iadd, 1) := by decide +kernel
theorem d_Do_factOf_99 : decode b_Do_factOf 99 = .ok (.ireturn, 1) := by decide +kernel
theorem d_Do_factOf_100 : decode b_Do_factOf 100 = .ok (.aload 4, 2) := by decide +kernel
theorem d_Do_factOf_102 : decode b_Do_factOf 102 = .ok (.iload_n 3, 1) := by decide +kernel
theorem d_Do_factOf_103 : decode b_Do_factOf 103 = .ok (.bipush 10, 2) := by decide +kernel
theorem d_Do_factOf_105 : decode b_Do_factOf 105 = .ok (.isub, 1) := by decide +kernel
theorem d_Do_factOf_106 : decode b_Do_factOf 106 = .ok (.invokevirtual 46, 3) := by decide +kernel
theorem d_Do_factOf_109 : decode b_Do_factOf 109 = .ok (.ireturn, 1) := by decide +kernel
theorem d_Rw_init_0 : decode b_Rw_init 0 = .ok (.aload_n 0, 1) := by decide +kernel
theorem d_Rw_init_1 : decode b_Rw_init 1 = .ok (.invokespecial 3, 3) := by decide +kernel
theorem d_Rw_init_4 : decode b_Rw_init 4 = .ok (.aload_n 0, 1) := by decide +kernel
theorem d_Rw_init_5 : decode b_Rw_init 5 = .ok (.iconst 0, 1) := by decide +kernel
theorem d_Rw_init_6 : decode b_Rw_init 6 = .ok (.putfield 9, 3) := by decide +kernel
theorem d_Rw_init_9 : decode b_Rw_init 9 = .ok (.aload_n 0, 1) := by decide +kernel
theorem d_Rw_init_10 : decode b_Rw_init 10 = .ok (.iconst 0, 1) := by decide +kernel
theorem d_Rw_init_11 : decode b_Rw_init 11 = .ok (.putfield 15, 3) := by decide +kernel
theorem d_Rw_init_14 : decode b_Rw_init 14 = .ok (.aload_n 0, 1) := by decide +kernel
theorem d_Rw_init_15 : decode b_Rw_init 15 = .ok (.iload_n 1, 1) := by decide +kernel
theorem d_Rw_init_16 : decode b_Rw_init 16 = .ok (.anewarray 18, 3) := by decide +kernel
theorem d_Rw_init_19 : decode b_Rw_init 19 = .ok (.putfield 20, 3) := by decide +kernel
theorem d_Rw_init_22 : decode b_Rw_init 22 = .ok (.return_, 1) := by decide +kernel
theorem d_Rw_append_0 : decode b_Rw_append 0 = .ok (.aload_n 0, 1) := by decide +kernel
theorem d_Rw_append_1 : decode b_Rw_append 1 = .ok (.getfield 9, 3) := by decide +kernel
theorem d_Rw_append_4 : decode b_Rw_append 4 = .ok (.aload_n 0, 1) := by decide +kernel
theorem d_Rw_append_5 : decode b_Rw_append 5 = .ok (.getfield 20, 3) := by decide +kernel
theorem d_Rw_append_8 : decode b_Rw_append 8 = .ok (.arraylength, 1) := by decide +kernel
theorem d_Rw_append_9 : decode b_Rw_append 9 = .ok (.if_icmp .ge 37, 3) := by decide +kernel
theorem d_Rw_append_12 : decode b_Rw_append 12 = .ok (.aload_n 0, 1) := by decide +kernel
theorem d_Rw_append_13 : decode b_Rw_append 13 = .ok (.getfield 20, 3) := by decide +kernel
theorem d_Rw_append_16 : decode b_Rw_append 16 = .ok (.aload_n 0, 1) := by decide +kernel
theorem d_Rw_append_17 : decode b_Rw_append 17 = .ok (.getfield 9, 3) := by decide +kernel
theorem d_Rw_append_20 : decode b_Rw_append 20 = .ok (.aload_n 1, 1) := by decide +kernel
theorem d_Rw_append_21 : decode b_Rw_append 21 = .ok (.aastore, 1) := by decide +kernel
theorem d_Rw_append_22 : decode b_Rw_append 22 = .ok (.aload_n 0, 1) := by decide +kernel
theorem d_Rw_append_23 : decode b_Rw_append 23 = .ok (.dup, 1) := by decide +kernel
theorem d_Rw_append_24 : decode b_Rw_append 24 = .ok (.getfield 9, 3) := by decide +kernel
theorem d_Rw_append_27 : decode b_Rw_append 27 = .ok (.iconst 1, 1) := by decide +kernel
theorem d_Rw_append_28 : decode b_Rw_append 28 = .ok (.iadd, 1) := by decide +kernel
theorem d_Rw_append_29 : decode b_Rw_append 29 = .ok (.putfield 9, 3) := by decide +kernel
theorem d_Rw_append_32 : decode b_Rw_append 32 = .ok (.aload_n 0, 1) := by decide +kernel
theorem d_Rw_append_33 : decode b_Rw_append 33 = .ok (.dup, 1) := by decide +kernel
theorem d_Rw_append_34 : decode b_Rw_append 34 = .ok (.getfield 15, 3) := by decide +kernel
theorem d_Rw_append_37 : decode b_Rw_append 37 = .ok (.aload_n 1, 1) := by decide +kernel
theorem d_Rw_append_38 : decode b_Rw_append 38 = .ok (.getfield 24, 3) := by decide +kernel
theorem d_Rw_append_41 : decode b_Rw_append 41 = .ok (.arraylength, 1) := by decide +kernel
theorem d_Rw_append_42 : decode b_Rw_append 42 = .ok (.iadd, 1) := by decide +kernel
theorem d_Rw_append_43 : decode b_Rw_append 43 = .ok (.putfield 15, 3) := by decide +kernel
theorem d_Rw_append_46 : decode b_Rw_append 46 = .ok (.return_, 1) := by decide +kernel
theorem d_Rw_appendLive_0 : decode b_Rw_appendLive 0 = .ok (.iconst 0, 1) := by decide +kernel
theorem d_Rw_appendLive_1 : decode b_Rw_appendLive 1 = .ok (.istore_n 2, 1) := by decide +kernel
theorem d_Rw_appendLive_2 : decode b_Rw_appendLive 2 = .ok (.iload_n 2, 1) := by decide +kernel
theorem d_Rw_appendLive_3 : decode b_Rw_appendLive 3 = .ok (.aload_n 1, 1) := by decide +kernel
theorem d_Rw_appendLive_4 : decode b_Rw_appendLive 4 = .ok (.getfield 9, 3) := by decide +kernel
theorem d_Rw_appendLive_7 : decode b_Rw_appendLive 7 = .ok (.if_icmp .ge 31, 3) := by decide +kernel
theorem d_Rw_appendLive_10 : decode b_Rw_appendLive 10 = .ok (.aload_n 1, 1) := by decide +kernel
theorem d_Rw_appendLive_11 : decode b_Rw_appendLive 11 = .ok (.getfield 20, 3) := by decide +kernel
theorem d_Rw_appendLive_14 : decode b_Rw_appendLive 14 = .ok (.iload_n 2, 1) := by decide +kernel
theorem d_Rw_appendLive_15 : decode b_Rw_appendLive 15 = .ok (.aaload, 1) := by decide +kernel
theorem d_Rw_appendLive_16 : decode b_Rw_appendLive 16 = .ok (.getfield 28, 3) := by decide +kernel
theorem d_Rw_appendLive_19 : decode b_Rw_appendLive 19 = .ok (.ifCond .eq 13, 3) := by decide +kernel
theorem d_Rw_appendLive_22 : decode b_Rw_appendLive 22 = .ok (.aload_n 0, 1) := by decide +kernel
theorem d_Rw_appendLive_23 : decode b_Rw_appendLive 23 = .ok (.aload_n 1, 1) := by decide +kernel
theorem d_Rw_appendLive_24 : decode b_Rw_appendLive 24 = .ok (.getfield 20, 3) := by decide +kernel
theorem d_Rw_appendLive_27 : decode b_Rw_appendLive 27 = .ok (.iload_n 2, 1) := by decide +kernel
theorem d_Rw_appendLive_28 : decode b_Rw_appendLive 28 = .ok (.aaload, 1) := by decide +kernel
theorem d_Rw_appendLive_29 : decode b_Rw_appendLive 29 = .ok (.invokevirtual 32, 3) := by decide +kernel
theorem d_Rw_appendLive_32 : decode b_Rw_appendLive 32 = .ok (.iinc 2 1, 3) := by decide +kernel
theorem d_Rw_appendLive_35 : decode b_Rw_appendLive 35 = .ok (.goto (-33), 3) := by decide +kernel
theorem d_Rw_appendLive_38 : decode b_Rw_appendLive 38 = .ok (.return_, 1) := by decide +kernel
theorem d_Rw_drop_0 : decode b_Rw_drop 0 = .ok (.aload_n 0, 1) := by decide +kernel
theorem d_Rw_drop_1 : decode b_Rw_drop 1 = .ok (.iconst 0, 1) := by decide +kernel
theorem d_Rw_drop_2 : decode b_Rw_drop 2 = .ok (.putfield 9, 3) := by decide +kernel
theorem d_Rw_drop_5 : decode b_Rw_drop 5 = .ok (.aload_n 0, 1) := by decide +kernel
theorem d_Rw_drop_6 : decode b_Rw_drop 6 = .ok (.iconst 0, 1) := by decide +kernel
theorem d_Rw_drop_7 : decode b_Rw_drop 7 = .ok (.putfield 15, 3) := by decide +kernel
theorem d_Rw_drop_10 : decode b_Rw_drop 10 = .ok (.return_, 1) := by decide +kernel
theorem d_Rw_liveCount_0 : decode b_Rw_liveCount 0 = .ok (.iconst 0, 1) := by decide +kernel
theorem d_Rw_liveCount_1 : decode b_Rw_liveCount 1 = .ok (.istore_n 1, 1) := by decide +kernel
theorem d_Rw_liveCount_2 : decode b_Rw_liveCount 2 = .ok (.iconst 0, 1) := by decide +kernel
theorem d_Rw_liveCount_3 : decode b_Rw_liveCount 3 = .ok (.istore_n 2, 1) := by decide +kernel
theorem d_Rw_liveCount_4 : decode b_Rw_liveCount 4 = .ok (.iload_n 2, 1) := by decide +kernel
theorem d_Rw_liveCount_5 : decode b_Rw_liveCount 5 = .ok (.aload_n 0, 1) := by decide +kernel
theorem d_Rw_liveCount_6 : decode b_Rw_liveCount 6 = .ok (.getfield 9, 3) := by decide +kernel
theorem d_Rw_liveCount_9 : decode b_Rw_liveCount 9 = .ok (.if_icmp .ge 24, 3) := by decide +kernel
theorem d_Rw_liveCount_12 : decode b_Rw_liveCount 12 = .ok (.aload_n 0, 1) := by decide +kernel
theorem d_Rw_liveCount_13 : decode b_Rw_liveCount 13 = .ok (.getfield 20, 3) := by decide +kernel
theorem d_Rw_liveCount_16 : decode b_Rw_liveCount 16 = .ok (.iload_n 2, 1) := by decide +kernel
theorem d_Rw_liveCount_17 : decode b_Rw_liveCount 17 = .ok (.aaload, 1) := by decide +kernel
theorem d_Rw_liveCount_18 : decode b_Rw_liveCount 18 = .ok (.getfield 28, 3) := by decide +kernel
theorem d_Rw_liveCount_21 : decode b_Rw_liveCount 21 = .ok (.ifCond .eq 6, 3) := by decide +kernel
theorem d_Rw_liveCount_24 : decode b_Rw_liveCount 24 = .ok (.iinc 1 1, 3) := by decide +kernel
theorem d_Rw_liveCount_27 : decode b_Rw_liveCount 27 = .ok (.iinc 2 1, 3) := by decide +kernel
theorem d_Rw_liveCount_30 : decode b_Rw_liveCount 30 = .ok (.goto (-26), 3) := by decide +kernel
