theorem d_B_init_0 : decode b_B_init 0 = .ok (.aload_n 0, 1) := by decide +kernel
theorem d_B_init_1 : decode b_B_init 1 = .ok (.invokespecial 1, 3) := by decide +kernel
theorem d_B_init_4 : decode b_B_init 4 = .ok (.aload_n 0, 1) := by decide +kernel
theorem d_B_init_5 : decode b_B_init 5 = .ok (.new 7, 3) := by decide +kernel
theorem d_B_init_8 : decode b_B_init 8 = .ok (.dup, 1) := by decide +kernel
theorem d_B_init_9 : decode b_B_init 9 = .ok (.invokespecial 9, 3) := by decide +kernel
theorem d_B_init_12 : decode b_B_init 12 = .ok (.putfield 10, 3) := by decide +kernel
theorem d_B_init_15 : decode b_B_init 15 = .ok (.aload_n 0, 1) := by decide +kernel
theorem d_B_init_16 : decode b_B_init 16 = .ok (.new 16, 3) := by decide +kernel
theorem d_B_init_19 : decode b_B_init 19 = .ok (.dup, 1) := by decide +kernel
theorem d_B_init_20 : decode b_B_init 20 = .ok (.invokespecial 18, 3) := by decide +kernel
theorem d_B_init_23 : decode b_B_init 23 = .ok (.putfield 19, 3) := by decide +kernel
theorem d_B_init_26 : decode b_B_init 26 = .ok (.aload_n 0, 1) := by decide +kernel
theorem d_B_init_27 : decode b_B_init 27 = .ok (.new 23, 3) := by decide +kernel
theorem d_B_init_30 : decode b_B_init 30 = .ok (.dup, 1) := by decide +kernel
theorem d_B_init_31 : decode b_B_init 31 = .ok (.bipush 30, 2) := by decide +kernel
theorem d_B_init_33 : decode b_B_init 33 = .ok (.invokespecial 25, 3) := by decide +kernel
theorem d_B_init_36 : decode b_B_init 36 = .ok (.putfield 28, 3) := by decide +kernel
theorem d_B_init_39 : decode b_B_init 39 = .ok (.aload_n 0, 1) := by decide +kernel
theorem d_B_init_40 : decode b_B_init 40 = .ok (.bipush 6, 2) := by decide +kernel
theorem d_B_init_42 : decode b_B_init 42 = .ok (.anewarray 23, 3) := by decide +kernel
theorem d_B_init_45 : decode b_B_init 45 = .ok (.putfield 32, 3) := by decide +kernel
theorem d_B_init_48 : decode b_B_init 48 = .ok (.aload_n 0, 1) := by decide +kernel
theorem d_B_init_49 : decode b_B_init 49 = .ok (.new 36, 3) := by decide +kernel
theorem d_B_init_52 : decode b_B_init 52 = .ok (.dup, 1) := by decide +kernel
theorem d_B_init_53 : decode b_B_init 53 = .ok (.invokespecial 38, 3) := by decide +kernel
theorem d_B_init_56 : decode b_B_init 56 = .ok (.putfield 39, 3) := by decide +kernel
theorem d_B_init_59 : decode b_B_init 59 = .ok (.aload_n 0, 1) := by decide +kernel
theorem d_B_init_60 : decode b_B_init 60 = .ok (.new 43, 3) := by decide +kernel
theorem d_B_init_63 : decode b_B_init 63 = .ok (.dup, 1) := by decide +kernel
theorem d_B_init_64 : decode b_B_init 64 = .ok (.invokespecial 45, 3) := by decide +kernel
theorem d_B_init_67 : decode b_B_init 67 = .ok (.putfield 46, 3) := by decide +kernel
theorem d_B_init_70 : decode b_B_init 70 = .ok (.aload_n 0, 1) := by decide +kernel
theorem d_B_init_71 : decode b_B_init 71 = .ok (.new 50, 3) := by decide +kernel
theorem d_B_init_74 : decode b_B_init 74 = .ok (.dup, 1) := by decide +kernel
theorem d_B_init_75 : decode b_B_init 75 = .ok (.invokespecial 52, 3) := by decide +kernel
theorem d_B_init_78 : decode b_B_init 78 = .ok (.putfield 53, 3) := by decide +kernel
theorem d_B_init_81 : decode b_B_init 81 = .ok (.aload_n 0, 1) := by decide +kernel
theorem d_B_init_82 : decode b_B_init 82 = .ok (.new 57, 3) := by decide +kernel
theorem d_B_init_85 : decode b_B_init 85 = .ok (.dup, 1) := by decide +kernel
theorem d_B_init_86 : decode b_B_init 86 = .ok (.invokespecial 59, 3) := by decide +kernel
theorem d_B_init_89 : decode b_B_init 89 = .ok (.putfield 60, 3) := by decide +kernel
theorem d_B_init_92 : decode b_B_init 92 = .ok (.aload_n 0, 1) := by decide +kernel
theorem d_B_init_93 : decode b_B_init 93 = .ok (.iconst 0, 1) := by decide +kernel
theorem d_B_init_94 : decode b_B_init 94 = .ok (.putfield 64, 3) := by decide +kernel
theorem d_B_init_97 : decode b_B_init 97 = .ok (.aload_n 0, 1) := by decide +kernel
theorem d_B_init_98 : decode b_B_init 98 = .ok (.iconst 0, 1) := by decide +kernel
theorem d_B_init_99 : decode b_B_init 99 = .ok (.putfield 68, 3) := by decide +kernel
theorem d_B_init_102 : decode b_B_init 102 = .ok (.aload_n 0, 1) := by decide +kernel
theorem d_B_init_103 : decode b_B_init 103 = .ok (.iconst 0, 1) := by decide +kernel
theorem d_B_init_104 : decode b_B_init 104 = .ok (.putfield 71, 3) := by decide +kernel
theorem d_B_init_107 : decode b_B_init 107 = .ok (.return_, 1) := by decide +kernel
theorem d_B_open_0 : decode b_B_open 0 = .ok (.iload_n 1, 1) := by decide +kernel
theorem d_B_open_1 : decode b_B_open 1 = .ok (.invokestatic 74, 3) := by decide +kernel
theorem d_B_open_4 : decode b_B_open 4 = .ok (.ifCond .ne 5, 3) := by decide +kernel
theorem d_B_open_7 : decode b_B_open 7 = .ok (.iconst (-1), 1) := by decide +kernel
theorem d_B_open_8 : decode b_B_open 8 = .ok (.ireturn, 1) := by decide +kernel
theorem d_B_open_9 : decode b_B_open 9 = .ok (.aload_n 0, 1) := by decide +kernel
theorem d_B_open_10 : decode b_B_open 10 = .ok (.getfield 10, 3) := by decide +kernel
theorem d_B_open_13 : decode b_B_open 13 = .ok (.iload_n 1, 1) := by decide +kernel
theorem d_B_open_14 : decode b_B_open 14 = .ok (.invokevirtual 78, 3) := by decide +kernel
theorem d_B_open_17 : decode b_B_open 17 = .ok (.ifCond .ne 6, 3) := by decide +kernel
theorem d_B_open_20 : decode b_B_open 20 = .ok (.bipush (-2), 2) := by decide +kernel
theorem d_B_open_22 : decode b_B_open 22 = .ok (.ireturn, 1) := by decide +kernel
theorem d_B_open_23 : decode b_B_open 23 = .ok (.aload_n 0, 1) := by decide +kernel
theorem d_B_open_24 : decode b_B_open 24 = .ok (.getfield 10, 3) := by decide +kernel
theorem d_B_open_27 : decode b_B_open 27 = .ok (.getfield 81, 3) := by decide +kernel
theorem d_B_open_30 : decode b_B_open 30 = .ok (.bipush 10, 2) := by decide +kernel
theorem d_B_open_32 : decode b_B_open 32 = .ok (.if_icmp .lt 6, 3) := by decide +kernel
theorem d_B_open_35 : decode b_B_open 35 = .ok (.bipush (-3), 2) := by decide +kernel
theorem d_B_open_37 : decode b_B_open 37 = .ok (.ireturn, 1) := by decide +kernel
theorem d_B_open_38 : decode b_B_open 38 = .ok (.aload_n 0, 1) := by decide +kernel
theorem d_B_open_39 : decode b_B_open 39 = .ok (.getfield 10, 3) := by decide +kernel
theorem d_B_open_42 : decode b_B_open 42 = .ok (.iload_n 1, 1) := by decide +kernel
theorem d_B_open_43 : decode b_B_open 43 = .ok (.invokevirtual 84, 3) := by decide +kernel
theorem d_B_open_46 : decode b_B_open 46 = .ok (.aload_n 0, 1) := by decide +kernel
theorem d_B_open_47 : decode b_B_open 47 = .ok (.getfield 10, 3) := by decide +kernel
theorem d_B_open_50 : decode b_B_open 50 = .ok (.getfield 81, 3) := by decide +kernel
theorem d_B_open_53 : decode b_B_open 53 = .ok (.ireturn, 1) := by decide +kernel
theorem d_B_number_0 : decode b_B_number 0 = .ok (.iload_n 1, 1) := by decide +kernel
theorem d_B_number_1 : decode b_B_number 1 = .ok (.invokestatic 87, 3) := by decide +kernel
theorem d_B_number_4 : decode b_B_number 4 = .ok (.ifCond .eq 20, 3) := by decide +kernel
theorem d_B_number_7 : decode b_B_number 7 = .ok (.iload_n 2, 1) := by decide +kernel
theorem d_B_number_8 : decode b_B_number 8 = .ok (.invokestatic 90, 3) := by decide +kernel
theorem d_B_number_11 : decode b_B_number 11 = .ok (.ifCond .eq 13, 3) := by decide +kernel
theorem d_B_number_14 : decode b_B_number 14 = .ok (.aload_n 0, 1) := by decide +kernel
theorem d_B_number_15 : decode b_B_number 15 = .ok (.getfield 10, 3) := by decide +kernel
theorem d_B_number_18 : decode b_B_number 18 = .ok (.getfield 93, 3) := by decide +kernel
theorem d_B_number_21 : decode b_B_number 21 = .ok (.ifnonnull 5, 3) := by decide +kernel
theorem d_B_number_24 : decode b_B_number 24 = .ok (.iconst 0, 1) := by decide +kernel
theorem d_B_number_25 : decode b_B_number 25 = .ok (.ireturn, 1) := by decide +kernel
theorem d_B_number_26 : decode b_B_number 26 = .ok (.aload_n 0, 1) := by decide +kernel
theorem d_B_number_27 : decode b_B_number 27 = .ok (.getfield 10, 3) := by decide +kernel
theorem d_B_number_30 : decode b_B_number 30 = .ok (.getfield 93, 3) := by decide +kernel
theorem d_B_number_33 : decode b_B_number 33 = .ok (.iload_n 1, 1) := by decide +kernel
theorem d_B_number_34 : decode b_B_number 34 = .ok (.iload_n 2, 1) := by decide +kernel
theorem d_B_number_35 : decode b_B_number 35 = .ok (.invokevirtual 97, 3) := by decide +kernel
theorem d_B_number_38 : decode b_B_number 38 = .ok (.iconst 1, 1) := by decide +kernel
theorem d_B_number_39 : decode b_B_number 39 = .ok (.ireturn, 1) := by decide +kernel
theorem d_B_word_0 : decode b_B_word 0 = .ok (.iload_n 1, 1) := by decide +kernel
theorem d_B_word_1 : decode b_B_word 1 = .ok (.invokestatic 87, 3) := by decide +kernel
theorem d_B_word_4 : decode b_B_word 4 = .ok (.ifCond .eq 10, 3) := by decide +kernel
theorem d_B_word_7 : decode b_B_word 7 = .ok (.iload_n 2, 1) := by decide +kernel
theorem d_B_word_8 : decode b_B_word 8 = .ok (.invokestatic 103, 3) := by decide +kernel
theorem d_B_word_11 : decode b_B_word 11 = .ok (.ifCond .ne 5, 3) := by decide +kernel
theorem d_B_word_14 : decode b_B_word 14 = .ok (.iconst (-1), 1) := by decide +kernel
theorem d_B_word_15 : decode b_B_word 15 = .ok (.ireturn, 1) := by decide +kernel
theorem d_B_word_16 : decode b_B_word 16 = .ok (.aload_n 0, 1) := by decide +kernel
theorem d_B_word_17 : decode b_B_word 17 = .ok (.getfield 10, 3) := by decide +kernel
theorem d_B_word_20 : decode b_B_word 20 = .ok (.getfield 93, 3) := by decide +kernel
theorem d_B_word_23 : decode b_B_word 23 = .ok (.astore_n 3, 1) := by decide +kernel
theorem d_B_word_24 : decode b_B_word 24 = .ok (.aload_n 3, 1) := by decide +kernel
theorem d_B_word_25 : decode b_B_word 25 = .ok (.ifnonnull 6, 3) := by decide +kernel
theorem d_B_word_28 : decode b_B_word 28 = .ok (.bipush (-2), 2) := by decide +kernel
theorem d_B_word_30 : decode b_B_word 30 = .ok (.ireturn, 1) := by decide +kernel
theorem d_B_word_31 : decode b_B_word 31 = .ok (.aload_n 3, 1) := by decide +kernel
theorem d_B_word_32 : decode b_B_word 32 = .ok (.getfield 106, 3) := by decide +kernel
theorem d_B_word_35 : decode b_B_word 35 = .ok (.iload_n 1, 1) := by decide +kernel
theorem d_B_word_36 : decode b_B_word 36 = .ok (.iaload, 1) := by decide +kernel
theorem d_B_word_37 : decode b_B_word 37 = .ok (.iconst 1, 1) := by decide +kernel
theorem d_B_word_38 : decode b_B_word 38 = .ok (.if_icmp .ne 6, 3) := by decide +kernel
theorem d_B_word_41 : decode b_B_word 41 = .ok (.bipush (-4), 2) := by decide +kernel
theorem d_B_word_43 : decode b_B_word 43 = .ok (.ireturn, 1) := by decide +kernel
theorem d_B_word_44 : decode b_B_word 44 = .ok (.aload_n 3, 1) := by decide +kernel
theorem d_B_word_45 : decode b_B_word 45 = .ok (.getfield 110, 3) := by decide +kernel
theorem d_B_word_48 : decode b_B_word 48 = .ok (.iload_n 1, 1) := by decide +kernel
theorem d_B_word_49 : decode b_B_word 49 = .ok (.iaload, 1) := by decide +kernel
theorem d_B_word_50 : decode b_B_word 50 = .ok (.bipush 8, 2) := by decide +kernel
theorem d_B_word_52 : decode b_B_word 52 = .ok (.if_icmp .lt 6, 3) := by decide +kernel
theorem d_B_word_55 : decode b_B_word 55 = .ok (.bipush (-3), 2) := by decide +kernel
theorem d_B_word_57 : decode b_B_word 57 = .ok (.ireturn, 1) := by decide +kernel
theorem d_B_word_58 : decode b_B_word 58 = .ok (.aload_n 3, 1) := by decide +kernel
theorem d_B_word_59 : decode b_B_word 59 = .ok (.iload_n 1, 1) := by decide +kernel
theorem d_B_word_60 : decode b_B_word 60 = .ok (.iload_n 2, 1) := by decide +kernel
theorem d_B_word_61 : decode b_B_word 61 = .ok (.invokevirtual 113, 3) := by decide +kernel
theorem d_B_word_64 : decode b_B_word 64 = .ok (.aload_n 3, 1) := by decide +kernel
theorem d_B_word_65 : decode b_B_word 65 = .ok (.getfield 110, 3) := by decide +kernel
theorem d_B_word_68 : decode b_B_word 68 = .ok (.iload_n 1, 1) := by decide +kernel
theorem d_B_word_69 : decode b_B_word 69 = .ok (.iaload, 1) := by decide +kernel
theorem d_B_word_70 : decode b_B_word 70 = .ok (.ireturn, 1) := by decide +kernel
theorem d_B_close_0 : decode b_B_close 0 = .ok (.aload_n 0, 1) := by decide +kernel
theorem d_B_close_1 : decode b_B_close 1 = .ok (.getfield 10, 3) := by decide +kernel
theorem d_B_close_4 : decode b_B_close 4 = .ok (.getfield 93, 3) := by decide +kernel
theorem d_B_close_7 : decode b_B_close 7 = .ok (.ifnonnull 6, 3) := by decide +kernel
theorem d_B_close_10 : decode b_B_close 10 = .ok (.bipush (-2), 2) := by decide +kernel
theorem d_B_close_12 : decode b_B_close 12 = .ok (.ireturn, 1) := by decide +kernel
theorem d_B_close_13 : decode b_B_close 13 = .ok (.aload_n 0, 1) := by decide +kernel
theorem d_B_close_14 : decode b_B_close 14 = .ok (.getfield 10, 3) := by decide +kernel
theorem d_B_close_17 : decode b_B_close 17 = .ok (.invokevirtual 116, 3) := by decide +kernel
theorem d_B_close_20 : decode b_B_close 20 = .ok (.aload_n 0, 1) := by decide +kernel
theorem d_B_close_21 : decode b_B_close 21 = .ok (.getfield 10, 3) := by decide +kernel
theorem d_B_close_24 : decode b_B_close 24 = .ok (.getfield 81, 3) := by decide +kernel
theorem d_B_close_27 : decode b_B_close 27 = .ok (.aload_n 0, 1) := by decide +kernel
theorem d_B_close_28 : decode b_B_close 28 = .ok (.getfield 10, 3) := by decide +kernel
theorem d_B_close_31 : decode b_B_close 31 = .ok (.getfield 119, 3) := by decide +kernel
theorem d_B_close_34 : decode b_B_close 34 = .ok (.isub, 1) := by decide +kernel
theorem d_B_close_35 : decode b_B_close 35 = .ok (.ireturn, 1) := by decide +kernel
theorem d_B_wipe_0 : decode b_B_wipe 0 = .ok (.aload_n 0, 1) := by decide +kernel
theorem d_B_wipe_1 : decode b_B_wipe 1 = .ok (.getfield 10, 3) := by decide +kernel
theorem d_B_wipe_4 : decode b_B_wipe 4 = .ok (.getfield 81, 3) := by decide +kernel
theorem d_B_wipe_7 : decode b_B_wipe 7 = .ok (.istore_n 1, 1) := by decide +kernel
theorem d_B_wipe_8 : decode b_B_wipe 8 = .ok (.aload_n 0, 1) := by decide +kernel
theorem d_B_wipe_9 : decode b_B_wipe 9 = .ok (.getfield 10, 3) := by decide +kernel
theorem d_B_wipe_12 : decode b_B_wipe 12 = .ok (.invokevirtual 122, 3) := by decide +kernel
theorem d_B_wipe_15 : decode b_B_wipe 15 = .ok (.iload_n 1, 1) := by decide +kernel
theorem d_B_wipe_16 : decode b_B_wipe 16 = .ok (.ireturn, 1) := by decide +kernel
theorem d_B_add_0 : decode b_B_add 0 = .ok (.iload_n 1, 1) := by decide +kernel
theorem d_B_add_1 : decode b_B_add 1 = .ok (.invokestatic 125, 3) := by decide +kernel
theorem d_B_add_4 : decode b_B_add 4 = .ok (.ifCond .ne 5, 3) := by decide +kernel
theorem d_B_add_7 : decode b_B_add 7 = .ok (.iconst (-1), 1) := by decide +kernel
theorem d_B_add_8 : decode b_B_add 8 = .ok (.ireturn, 1) := by decide +kernel
theorem d_B_add_9 : decode b_B_add 9 = .ok (.aload_n 0, 1) := by decide +kernel
theorem d_B_add_10 : decode b_B_add 10 = .ok (.getfield 10, 3) := by decide +kernel
theorem d_B_add_13 : decode b_B_add 13 = .ok (.invokevirtual 128, 3) := by decide +kernel
theorem d_B_add_16 : decode b_B_add 16 = .ok (.ifCond .ne 6, 3) := by decide +kernel
theorem d_B_add_19 : decode b_B_add 19 = .ok (.bipush (-2), 2) := by decide +kernel
theorem d_B_add_21 : decode b_B_add 21 = .ok (.ireturn, 1) := by decide +kernel
theorem d_B_add_22 : decode b_B_add 22 = .ok (.aload_n 0, 1) := by decide +kernel
theorem d_B_add_23 : decode b_B_add 23 = .ok (.getfield 19, 3) := by decide +kernel
theorem d_B_add_26 : decode b_B_add 26 = .ok (.aload_n 0, 1) := by decide +kernel
theorem d_B_add_27 : decode b_B_add 27 = .ok (.getfield 10, 3) := by decide +kernel
theorem d_B_add_30 : decode b_B_add 30 = .ok (.invokevirtual 132, 3) := by decide +kernel
theorem d_B_add_33 : decode b_B_add 33 = .ok (.ifCond .ne 6, 3) := by decide +kernel
theorem d_B_add_36 : decode b_B_add 36 = .ok (.bipush (-4), 2) := by decide +kernel
theorem d_B_add_38 : decode b_B_add 38 = .ok (.ireturn, 1) := by decide +kernel
theorem d_B_add_39 : decode b_B_add 39 = .ok (.aload_n 0, 1) := by decide +kernel
theorem d_B_add_40 : decode b_B_add 40 = .ok (.getfield 28, 3) := by decide +kernel
theorem d_B_add_43 : decode b_B_add 43 = .ok (.getfield 136, 3) := by decide +kernel
theorem d_B_add_46 : decode b_B_add 46 = .ok (.aload_n 0, 1) := by decide +kernel
theorem d_B_add_47 : decode b_B_add 47 = .ok (.getfield 10, 3) := by decide +kernel
theorem d_B_add_50 : decode b_B_add 50 = .ok (.getfield 119, 3) := by decide +kernel
theorem d_B_add_53 : decode b_B_add 53 = .ok (.iadd, 1) := by decide +kernel
theorem d_B_add_54 : decode b_B_add 54 = .ok (.bipush 30, 2) := by decide +kernel
theorem d_B_add_56 : decode b_B_add 56 = .ok (.if_icmp .le 6, 3) := by decide +kernel
theorem d_B_add_59 : decode b_B_add 59 = .ok (.bipush (-3), 2) := by decide +kernel
theorem d_B_add_61 : decode b_B_add 61 = .ok (.ireturn, 1) := by decide +kernel
theorem d_B_add_62 : decode b_B_add 62 = .ok (.aload_n 0, 1) := by decide +kernel
theorem d_B_add_63 : decode b_B_add 63 = .ok (.iload_n 1, 1) := by decide +kernel
theorem d_B_add_64 : decode b_B_add 64 = .ok (.invokevirtual 139, 3) := by decide +kernel
theorem d_B_add_67 : decode b_B_add 67 = .ok (.pop, 1) := by decide +kernel
theorem d_B_add_68 : decode b_B_add 68 = .ok (.aload_n 0, 1) := by decide +kernel
theorem d_B_add_69 : decode b_B_add 69 = .ok (.getfield 19, 3) := by decide +kernel
theorem d_B_add_72 : decode b_B_add 72 = .ok (.aload_n 0, 1) := by decide +kernel
theorem d_B_add_73 : decode b_B_add 73 = .ok (.getfield 10, 3) := by decide +kernel
theorem d_B_add_76 : decode b_B_add 76 = .ok (.invokevirtual 142, 3) := by decide +kernel
theorem d_B_add_79 : decode b_B_add 79 = .ok (.aload_n 0, 1) := by decide +kernel
theorem d_B_add_80 : decode b_B_add 80 = .ok (.getfield 28, 3) := by decide +kernel
theorem d_B_add_83 : decode b_B_add 83 = .ok (.new 146, 3) := by decide +kernel
theorem d_B_add_86 : decode b_B_add 86 = .ok (.dup, 1) := by decide +kernel
theorem d_B_add_87 : decode b_B_add 87 = .ok (.iload_n 1, 1) := by decide +kernel
theorem d_B_add_88 : decode b_B_add 88 = .ok (.aload_n 0, 1) := by decide +kernel
theorem d_B_add_89 : decode b_B_add 89 = .ok (.getfield 10, 3) := by decide +kernel
theorem d_B_add_92 : decode b_B_add 92 = .ok (.invokespecial 148, 3) := by decide +kernel
theorem d_B_add_95 : decode b_B_add 95 = .ok (.invokevirtual 151, 3) := by decide +kernel
theorem d_B_add_98 : decode b_B_add 98 = .ok (.aload_n 0, 1) := by decide +kernel
theorem d_B_add_99 : decode b_B_add 99 = .ok (.getfield 10, 3) := by decide +kernel
theorem d_B_add_102 : decode b_B_add 102 = .ok (.invokevirtual 122, 3) := by decide +kernel
theorem d_B_add_105 : decode b_B_add 105 = .ok (.aload_n 0, 1) := by decide +kernel
theorem d_B_add_106 : decode b_B_add 106 = .ok (.dup, 1) := by decide +kernel
theorem d_B_add_107 : decode b_B_add 107 = .ok (.getfield 68, 3) := by decide +kernel
theorem d_B_add_110 : decode b_B_add 110 = .ok (.iconst 1, 1) := by decide +kernel
theorem d_B_add_111 : decode b_B_add 111 = .ok (.iadd, 1) := by decide +kernel
theorem d_B_add_112 : decode b_B_add 112 = .ok (.putfield 68, 3) := by decide +kernel
theorem d_B_add_115 : decode b_B_add 115 = .ok (.aload_n 0, 1) := by decide +kernel
theorem d_B_add_116 : decode b_B_add 116 = .ok (.getfield 28, 3) := by decide +kernel
theorem d_B_add_119 : decode b_B_add 119 = .ok (.getfield 136, 3) := by decide +kernel
theorem d_B_add_122 : decode b_B_add 122 = .ok (.ireturn, 1) := by decide +kernel
theorem d_B_remove_0 : decode b_B_remove 0 = .ok (.aload_n 0, 1) := by decide +kernel
theorem d_B_remove_1 : decode b_B_remove 1 = .ok (.iload_n 1, 1) := by decide +kernel
theorem d_B_remove_2 : decode b_B_remove 2 = .ok (.invokevirtual 139, 3) := by decide +kernel
theorem d_B_remove_5 : decode b_B_remove 5 = .ok (.ireturn, 1) := by decide +kernel
theorem d_B_flush_0 : decode b_B_flush 0 = .ok (.aload_n 0, 1) := by decide +kernel
theorem d_B_flush_1 : decode b_B_flush 1 = .ok (.getfield 28, 3) := by decide +kernel
theorem d_B_flush_4 : decode b_B_flush 4 = .ok (.invokevirtual 155, 3) := by decide +kernel
theorem d_B_flush_7 : decode b_B_flush 7 = .ok (.istore_n 1, 1) := by decide +kernel
theorem d_B_flush_8 : decode b_B_flush 8 = .ok (.iload_n 1, 1) := by decide +kernel
theorem d_B_flush_9 : decode b_B_flush 9 = .ok (.ifCond .le 15, 3) := by decide +kernel
theorem d_B_flush_12 : decode b_B_flush 12 = .ok (.aload_n 0, 1) := by decide +kernel
theorem d_B_flush_13 : decode b_B_flush 13 = .ok (.getfield 64, 3) := by decide +kernel
theorem d_B_flush_16 : decode b_B_flush 16 = .ok (.bipush 6, 2) := by decide +kernel
theorem d_B_flush_18 : decode b_B_flush 18 = .ok (.if_icmp .lt 6, 3) := by decide +kernel
theorem d_B_flush_21 : decode b_B_flush 21 = .ok (.bipush (-3), 2) := by decide +kernel
theorem d_B_flush_23 : decode b_B_flush 23 = .ok (.ireturn, 1) := by decide +kernel
theorem d_B_flush_24 : decode b_B_flush 24 = .ok (.iconst 0, 1) := by decide +kernel
theorem d_B_flush_25 : decode b_B_flush 25 = .ok (.istore_n 2, 1) := by decide +kernel
theorem d_B_flush_26 : decode b_B_flush 26 = .ok (.iload_n 1, 1) := by decide +kernel
theorem d_B_flush_27 : decode b_B_flush 27 = .ok (.ifCond .le 45, 3) := by decide +kernel
theorem d_B_flush_30 : decode b_B_flush 30 = .ok (.new 23, 3) := by decide +kernel
theorem d_B_flush_33 : decode b_B_flush 33 = .ok (.dup, 1) := by decide +kernel
theorem d_B_flush_34 : decode b_B_flush 34 = .ok (.iload_n 1, 1) := by decide +kernel
theorem d_B_flush_35 : decode b_B_flush 35 = .ok (.invokespecial 25, 3) := by decide +kernel
theorem d_B_flush_38 : decode b_B_flush 38 = .ok (.astore_n 3, 1) := by decide +kernel
theorem d_B_flush_39 : decode b_B_flush 39 = .ok (.aload_n 3, 1) := by decide +kernel
theorem d_B_flush_40 : decode b_B_flush 40 = .ok (.aload_n 0, 1) := by decide +kernel
theorem d_B_flush_41 : decode b_B_flush 41 = .ok (.getfield 28, 3) := by decide +kernel
theorem d_B_flush_44 : decode b_B_flush 44 = .ok (.invokevirtual 159, 3) := by decide +kernel
theorem d_B_flush_47 : decode b_B_flush 47 = .ok (.aload_n 0, 1) := by decide +kernel
theorem d_B_flush_48 : decode b_B_flush 48 = .ok (.getfield 32, 3) := by decide +kernel
theorem d_B_flush_51 : decode b_B_flush 51 = .ok (.aload_n 0, 1) := by decide +kernel
theorem d_B_flush_52 : decode b_B_flush 52 = .ok (.getfield 64, 3) := by decide +kernel
theorem d_B_flush_55 : decode b_B_flush 55 = .ok (.aload_n 3, 1) := by decide +kernel
theorem d_B_flush_56 : decode b_B_flush 56 = .ok (.aastore, 1) := by decide +kernel
theorem d_B_flush_57 : decode b_B_flush 57 = .ok (.aload_n 0, 1) := by decide +kernel
theorem d_B_flush_58 : decode b_B_flush 58 = .ok (.dup, 1) := by decide +kernel
theorem d_B_flush_59 : decode b_B_flush 59 = .ok (.getfield 64, 3) := by decide +kernel
theorem d_B_flush_62 : decode b_B_flush 62 = .ok (.iconst 1, 1) := by decide +kernel
theorem d_B_flush_63 : decode b_B_flush 63 = .ok (.iadd, 1) := by decide +kernel
theorem d_B_flush_64 : decode b_B_flush 64 = .ok (.putfield 64, 3) := by decide +kernel
theorem d_B_flush_67 : decode b_B_flush 67 = .ok (.aload_n 3, 1) := by decide +kernel
theorem d_B_flush_68 : decode b_B_flush 68 = .ok (.getfield 136, 3) := by decide +kernel
theorem d_B_flush_71 : decode b_B_flush 71 = .ok (.istore_n 2, 1) := by decide +kernel
theorem d_B_flush_72 : decode b_B_flush 72 = .ok (.aload_n 0, 1) := by decide +kernel
theorem d_B_flush_73 : decode b_B_flush 73 = .ok (.getfield 28, 3) := by decide +kernel
theorem d_B_flush_76 : decode b_B_flush 76 = .ok (.invokevirtual 163, 3) := by decide +kernel
theorem d_B_flush_79 : decode b_B_flush 79 = .ok (.iload_n 2, 1) := by decide +kernel
theorem d_B_flush_80 : decode b_B_flush 80 = .ok (.ireturn, 1) := by decide +kernel
theorem d_B_merge_0 : decode b_B_merge 0 = .ok (.iload_n 2, 1) := by decide +kernel
theorem d_B_merge_1 : decode b_B_merge 1 = .ok (.iconst 2, 1) := by decide +kernel
theorem d_B_merge_2 : decode b_B_merge 2 = .ok (.if_icmp .lt 23, 3) := by decide +kernel
theorem d_B_merge_5 : decode b_B_merge 5 = .ok (.iload_n 2, 1) := by decide +kernel
theorem d_B_merge_6 : decode b_B_merge 6 = .ok (.bipush 6, 2) := by decide +kernel
theorem d_B_merge_8 : decode b_B_merge 8 = .ok (.if_icmp .gt 17, 3) := by decide +kernel
theorem d_B_merge_11 : decode b_B_merge 11 = .ok (.iload_n 1, 1) := by decide +kernel
theorem d_B_merge_12 : decode b_B_merge 12 = .ok (.ifCond .lt 13, 3) := by decide +kernel
theorem d_B_merge_15 : decode b_B_merge 15 = .ok (.iload_n 1, 1) := by decide +kernel
theorem d_B_merge_16 : decode b_B_merge 16 = .ok (.aload_n 0, 1) := by decide +kernel
theorem d_B_merge_17 : decode b_B_merge 17 = .ok (.getfield 64, 3) := by decide +kernel
theorem d_B_merge_20 : decode b_B_merge 20 = .ok (.iload_n 2, 1) := by decide +kernel
theorem d_B_merge_21 : decode b_B_merge 21 = .ok (.isub, 1) := by decide +kernel
theorem d_B_merge_22 : decode b_B_merge 22 = .ok (.if_icmp .le 5, 3) := by decide +kernel
theorem d_B_merge_25 : decode b_B_merge 25 = .ok (.iconst (-1), 1) := by decide +kernel
theorem d_B_merge_26 : decode b_B_merge 26 = .ok (.ireturn, 1) := by decide +kernel
theorem d_B_merge_27 : decode b_B_merge 27 = .ok (.iconst 0, 1) := by decide +kernel
theorem d_B_merge_28 : decode b_B_merge 28 = .ok (.istore_n 3, 1) := by decide +kernel
theorem d_B_merge_29 : decode b_B_merge 29 = .ok (.iconst 0, 1) := by decide +kernel
theorem d_B_merge_30 : decode b_B_merge 30 = .ok (.istore 4, 2) := by decide +kernel
theorem d_B_merge_32 : decode b_B_merge 32 = .ok (.iload_n 1, 1) := by decide +kernel
theorem d_B_merge_33 : decode b_B_merge 33 = .ok (.istore 5, 2) := by decide +kernel
theorem d_B_merge_35 : decode b_B_merge 35 = .ok (.iload 5, 2) := by decide +kernel
theorem d_B_merge_37 : decode b_B_merge 37 = .ok (.iload_n 1, 1) := by decide +kernel
theorem d_B_merge_38 : decode b_B_merge 38 = .ok (.iload_n 2, 1) := by decide +kernel
theorem d_B_merge_39 : decode b_B_merge 39 = .ok (.iadd, 1) := by decide +kernel
theorem d_B_merge_40 : decode b_B_merge 40 = .ok (.if_icmp .ge 37, 3) := by decide +kernel
theorem d_B_merge_43 : decode b_B_merge 43 = .ok (.iload_n 3, 1) := by decide +kernel
theorem d_B_merge_44 : decode b_B_merge 44 = .ok (.aload_n 0, 1) := by decide +kernel
theorem d_B_merge_45 : decode b_B_merge 45 = .ok (.getfield 32, 3) := by decide +kernel
theorem d_B_merge_48 : decode b_B_merge 48 = .ok (.iload 5, 2) := by decide +kernel
theorem d_B_merge_50 : decode b_B_merge 50 = .ok (.aaload, 1) := by decide +kernel
theorem d_B_merge_51 : decode b_B_merge 51 = .ok (.invokevirtual 155, 3) := by decide +kernel
theorem d_B_merge_54 : decode b_B_merge 54 = .ok (.iadd, 1) := by decide +kernel
theorem d_B_merge_55 : decode b_B_merge 55 = .ok (.istore_n 3, 1) := by decide +kernel
theorem d_B_merge_56 : decode b_B_merge 56 = .ok (.iload 4, 2) := by decide +kernel
theorem d_B_merge_58 : decode b_B_merge 58 = .ok (.aload_n 0, 1) := by decide +kernel
theorem d_B_merge_59 : decode b_B_merge 59 = .ok (.getfield 32, 3) := by decide +kernel
theorem d_B_merge_62 : decode b_B_merge 62 = .ok (.iload 5, 2) := by decide +kernel
theorem d_B_merge_64 : decode b_B_merge 64 = .ok (.aaload, 1) := by decide +kernel
theorem d_B_merge_65 : decode b_B_merge 65 = .ok (.invokevirtual 164, 3) := by decide +kernel
theorem d_B_merge_68 : decode b_B_merge 68 = .ok (.iadd, 1) := by decide +kernel
theorem d_B_merge_69 : decode b_B_merge 69 = .ok (.istore 4, 2) := by decide +kernel
theorem d_B_merge_71 : decode b_B_merge 71 = .ok (.iinc 5 1, 3) := by decide +kernel
theorem d_B_merge_74 : decode b_B_merge 74 = .ok (.goto (-39), 3) := by decide +kernel
theorem d_B_merge_77 : decode b_B_merge 77 = .ok (.iconst 0, 1) := by decide +kernel
theorem d_B_merge_78 : decode b_B_merge 78 = .ok (.istore 5, 2) := by decide +kernel
theorem d_B_merge_80 : decode b_B_merge 80 = .ok (.iload_n 3, 1) := by decide +kernel
theorem d_B_merge_81 : decode b_B_merge 81 = .ok (.ifCond .le 19, 3) := by decide +kernel
theorem d_B_merge_84 : decode b_B_merge 84 = .ok (.aload_n 0, 1) := by decide +kernel
theorem d_B_merge_85 : decode b_B_merge 85 = .ok (.getfield 32, 3) := by decide +kernel
theorem d_B_merge_88 : decode b_B_merge 88 = .ok (.iload_n 1, 1) := by decide +kernel
theorem d_B_merge_89 : decode b_B_merge 89 = .ok (.aload_n 0, 1) := by decide +kernel
theorem d_B_merge_90 : decode b_B_merge 90 = .ok (.iload_n 1, 1) := by decide +kernel
theorem d_B_merge_91 : decode b_B_merge 91 = .ok (.iload_n 2, 1) := by decide +kernel
theorem d_B_merge_92 : decode b_B_merge 92 = .ok (.iload_n 3, 1) := by decide +kernel
theorem d_B_merge_93 : decode b_B_merge 93 = .ok (.invokevirtual 167, 3) := by decide +kernel
theorem d_B_merge_96 : decode b_B_merge 96 = .ok (.aastore, 1) := by decide +kernel
theorem d_B_merge_97 : decode b_B_merge 97 = .ok (.iconst 1, 1) := by decide +kernel
theorem d_B_merge_98 : decode b_B_merge 98 = .ok (.istore 5, 2) := by decide +kernel
theorem d_B_merge_100 : decode b_B_merge 100 = .ok (.aload_n 0, 1) := by decide +kernel
theorem d_B_merge_101 : decode b_B_merge 101 = .ok (.iload_n 1, 1) := by decide +kernel
theorem d_B_merge_102 : decode b_B_merge 102 = .ok (.iload_n 2, 1) := by decide +kernel
theorem d_B_merge_103 : decode b_B_merge 103 = .ok (.iadd, 1) := by decide +kernel
theorem d_B_merge_104 : decode b_B_merge 104 = .ok (.iload_n 2, 1) := by decide +kernel
theorem d_B_merge_105 : decode b_B_merge 105 = .ok (.iload 5, 2) := by decide +kernel
theorem d_B_merge_107 : decode b_B_merge 107 = .ok (.isub, 1) := by decide +kernel
theorem d_B_merge_108 : decode b_B_merge 108 = .ok (.invokevirtual 171, 3) := by decide +kernel
theorem d_B_merge_111 : decode b_B_merge 111 = .ok (.aload_n 0, 1) := by decide +kernel
theorem d_B_merge_112 : decode b_B_merge 112 = .ok (.dup, 1) := by decide +kernel
theorem d_B_merge_113 : decode b_B_merge 113 = .ok (.getfield 71, 3) := by decide +kernel
theorem d_B_merge_116 : decode b_B_merge 116 = .ok (.iload 4, 2) := by decide +kernel
theorem d_B_merge_118 : decode b_B_merge 118 = .ok (.iadd, 1) := by decide +kernel
theorem d_B_merge_119 : decode b_B_merge 119 = .ok (.putfield 71, 3) := by decide +kernel
theorem d_B_merge_122 : decode b_B_merge 122 = .ok (.aload_n 0, 1) := by decide +kernel
theorem d_B_merge_123 : decode b_B_merge 123 = .ok (.getfield 64, 3) := by decide +kernel
theorem d_B_merge_126 : decode b_B_merge 126 = .ok (.ireturn, 1) := by decide +kernel
theorem d_B_refresh_0 : decode b_B_refresh 0 = .ok (.aload_n 0, 1) := by decide +kernel
theorem d_B_refresh_1 : decode b_B_refresh 1 = .ok (.getfield 39, 3) := by decide +kernel
theorem d_B_refresh_4 : decode b_B_refresh 4 = .ok (.invokevirtual 174, 3) := by decide +kernel
theorem d_B_refresh_7 : decode b_B_refresh 7 = .ok (.iconst 0, 1) := by decide +kernel
theorem d_B_refresh_8 : decode b_B_refresh 8 = .ok (.istore_n 1, 1) := by decide +kernel
theorem d_B_refresh_9 : decode b_B_refresh 9 = .ok (.iload_n 1, 1) := by decide +kernel
theorem d_B_refresh_10 : decode b_B_refresh 10 = .ok (.aload_n 0, 1) := by decide +kernel
theorem d_B_refresh_11 : decode b_B_refresh 11 = .ok (.getfield 64, 3) := by decide +kernel
theorem d_B_refresh_14 : decode b_B_refresh 14 = .ok (.if_icmp .ge 23, 3) := by decide +kernel
theorem d_B_refresh_17 : decode b_B_refresh 17 = .ok (.aload_n 0, 1) := by decide +kernel
theorem d_B_refresh_18 : decode b_B_refresh 18 = .ok (.getfield 39, 3) := by decide +kernel
theorem d_B_refresh_21 : decode b_B_refresh 21 = .ok (.iload_n 1, 1) := by decide +kernel
theorem d_B_refresh_22 : decode b_B_refresh 22 = .ok (.aload_n 0, 1) := by decide +kernel
theorem d_B_refresh_23 : decode b_B_refresh 23 = .ok (.getfield 32, 3) := by decide +kernel
theorem d_B_refresh_26 : decode b_B_refresh 26 = .ok (.iload_n 1, 1) := by decide +kernel
theorem d_B_refresh_27 : decode b_B_refresh 27 = .ok (.aaload, 1) := by decide +kernel
theorem d_B_refresh_28 : decode b_B_refresh 28 = .ok (.invokevirtual 176, 3) := by decide +kernel
theorem d_B_refresh_31 : decode b_B_refresh 31 = .ok (.iinc 1 1, 3) := by decide +kernel
theorem d_B_refresh_34 : decode b_B_refresh 34 = .ok (.goto (-25), 3) := by decide +kernel
theorem d_B_refresh_37 : decode b_B_refresh 37 = .ok (.aload_n 0, 1) := by decide +kernel
theorem d_B_refresh_38 : decode b_B_refresh 38 = .ok (.getfield 39, 3) := by decide +kernel
theorem d_B_refresh_41 : decode b_B_refresh 41 = .ok (.invokevirtual 180, 3) := by decide +kernel
theorem d_B_refresh_44 : decode b_B_refresh 44 = .ok (.ireturn, 1) := by decide +kernel
theorem d_B_token_0 : decode b_B_token 0 = .ok (.iload_n 1, 1) := by decide +kernel
theorem d_B_token_1 : decode b_B_token 1 = .ok (.iload_n 2, 1) := by decide +kernel
theorem d_B_token_2 : decode b_B_token 2 = .ok (.iload_n 3, 1) := by decide +kernel
theorem d_B_token_3 : decode b_B_token 3 = .ok (.invokestatic 181, 3) := by decide +kernel
theorem d_B_token_6 : decode b_B_token 6 = .ok (.ifCond .ne 5, 3) := by decide +kernel
theorem d_B_token_9 : decode b_B_token 9 = .ok (.iconst (-1), 1) := by decide +kernel
theorem d_B_token_10 : decode b_B_token 10 = .ok (.ireturn, 1) := by decide +kernel
theorem d_B_token_11 : decode b_B_token 11 = .ok (.aload_n 0, 1) := by decide +kernel
theorem d_B_token_12 : decode b_B_token 12 = .ok (.getfield 46, 3) := by decide +kernel
theorem d_B_token_15 : decode b_B_token 15 = .ok (.invokevirtual 185, 3) := by decide +kernel
theorem d_B_token_18 : decode b_B_token 18 = .ok (.ifCond .ne 24, 3) := by decide +kernel
theorem d_B_token_21 : decode b_B_token 21 = .ok (.iload_n 1, 1) := by decide +kernel
theorem d_B_token_22 : decode b_B_token 22 = .ok (.bipush 8, 2) := by decide +kernel
theorem d_B_token_24 : decode b_B_token 24 = .ok (.if_icmp .ne 21, 3) := by decide +kernel
theorem d_B_token_27 : decode b_B_token 27 = .ok (.getstatic 186, 3) := by decide +kernel
theorem d_B_token_30 : decode b_B_token 30 = .ok (.iload_n 2, 1) := by decide +kernel
theorem d_B_token_31 : decode b_B_token 31 = .ok (.iaload, 1) := by decide +kernel
theorem d_B_token_32 : decode b_B_token 32 = .ok (.aload_n 0, 1) := by decide +kernel
theorem d_B_token_33 : decode b_B_token 33 = .ok (.getfield 46, 3) := by decide +kernel
theorem d_B_token_36 : decode b_B_token 36 = .ok (.invokevirtual 189, 3) := by decide +kernel
theorem d_B_token_39 : decode b_B_token 39 = .ok (.if_icmp .eq 6, 3) := by decide +kernel
theorem d_B_token_42 : decode b_B_token 42 = .ok (.bipush (-2), 2) := by decide +kernel
theorem d_B_token_44 : decode b_B_token 44 = .ok (.ireturn, 1) := by decide +kernel
theorem d_B_token_45 : decode b_B_token 45 = .ok (.aload_n 0, 1) := by decide +kernel
theorem d_B_token_46 : decode b_B_token 46 = .ok (.getfield 46, 3) := by decide +kernel
theorem d_B_token_49 : decode b_B_token 49 = .ok (.getfield 192, 3) := by decide +kernel
theorem d_B_token_52 : decode b_B_token 52 = .ok (.bipush 12, 2) := by decide +kernel
theorem d_B_token_54 : decode b_B_token 54 = .ok (.if_icmp .lt 6, 3) := by decide +kernel
theorem d_B_token_57 : decode b_B_token 57 = .ok (.bipush (-3), 2) := by decide +kernel
theorem d_B_token_59 : decode b_B_token 59 = .ok (.ireturn, 1) := by decide +kernel
theorem d_B_token_60 : decode b_B_token 60 = .ok (.aload_n 0, 1) := by decide +kernel
theorem d_B_token_61 : decode b_B_token 61 = .ok (.getfield 46, 3) := by decide +kernel
theorem d_B_token_64 : decode b_B_token 64 = .ok (.iload_n 1, 1) := by decide +kernel
theorem d_B_token_65 : decode b_B_token 65 = .ok (.iload_n 2, 1) := by decide +kernel
theorem d_B_token_66 : decode b_B_token 66 = .ok (.iload_n 3, 1) := by decide +kernel
theorem d_B_token_67 : decode b_B_token 67 = .ok (.invokevirtual 195, 3) := by decide +kernel
theorem d_B_token_70 : decode b_B_token 70 = .ok (.aload_n 0, 1) := by decide +kernel
theorem d_B_token_71 : decode b_B_token 71 = .ok (.getfield 46, 3) := by decide +kernel
theorem d_B_token_74 : decode b_B_token 74 = .ok (.getfield 198, 3) := by decide +kernel
theorem d_B_token_77 : decode b_B_token 77 = .ok (.ireturn, 1) := by decide +kernel
theorem d_B_clear_0 : decode b_B_clear 0 = .ok (.aload_n 0, 1) := by decide +kernel
theorem d_B_clear_1 : decode b_B_clear 1 = .ok (.getfield 46, 3) := by decide +kernel
theorem d_B_clear_4 : decode b_B_clear 4 = .ok (.getfield 192, 3) := by decide +kernel
theorem d_B_clear_7 : decode b_B_clear 7 = .ok (.istore_n 1, 1) := by decide +kernel
theorem d_B_clear_8 : decode b_B_clear 8 = .ok (.aload_n 0, 1) := by decide +kernel
theorem d_B_clear_9 : decode b_B_clear 9 = .ok (.getfield 46, 3) := by decide +kernel
theorem d_B_clear_12 : decode b_B_clear 12 = .ok (.invokevirtual 201, 3) := by decide +kernel
theorem d_B_clear_15 : decode b_B_clear 15 = .ok (.iload_n 1, 1) := by decide +kernel
theorem d_B_clear_16 : decode b_B_clear 16 = .ok (.ireturn, 1) := by decide +kernel
theorem d_B_search_0 : decode b_B_search 0 = .ok (.aload_n 0, 1) := by decide +kernel
theorem d_B_search_1 : decode b_B_search 1 = .ok (.getfield 46, 3) := by decide +kernel
theorem d_B_search_4 : decode b_B_search 4 = .ok (.invokevirtual 185, 3) := by decide +kernel
theorem d_B_search_7 : decode b_B_search 7 = .ok (.ifCond .eq 13, 3) := by decide +kernel
theorem d_B_search_10 : decode b_B_search 10 = .ok (.aload_n 0, 1) := by decide +kernel
theorem d_B_search_11 : decode b_B_search 11 = .ok (.getfield 39, 3) := by decide +kernel
theorem d_B_search_14 : decode b_B_search 14 = .ok (.getfield 202, 3) := by decide +kernel
theorem d_B_search_17 : decode b_B_search 17 = .ok (.ifCond .ne 6, 3) := by decide +kernel
theorem d_B_search_20 : decode b_B_search 20 = .ok (.bipush (-2), 2) := by decide +kernel
theorem d_B_search_22 : decode b_B_search 22 = .ok (.ireturn, 1) := by decide +kernel
theorem d_B_search_23 : decode b_B_search 23 = .ok (.aload_n 0, 1) := by decide +kernel
theorem d_B_search_24 : decode b_B_search 24 = .ok (.getfield 53, 3) := by decide +kernel
theorem d_B_search_27 : decode b_B_search 27 = .ok (.aload_n 0, 1) := by decide +kernel
theorem d_B_search_28 : decode b_B_search 28 = .ok (.getfield 46, 3) := by decide +kernel
theorem d_B_search_31 : decode b_B_search 31 = .ok (.aload_n 0, 1) := by decide +kernel
theorem d_B_search_32 : decode b_B_search 32 = .ok (.getfield 39, 3) := by decide +kernel
theorem d_B_search_35 : decode b_B_search 35 = .ok (.invokevirtual 206, 3) := by decide +kernel
theorem d_B_search_38 : decode b_B_search 38 = .ok (.aload_n 0, 1) := by decide +kernel
theorem d_B_search_39 : decode b_B_search 39 = .ok (.getfield 60, 3) := by decide +kernel
theorem d_B_search_42 : decode b_B_search 42 = .ok (.invokevirtual 210, 3) := by decide +kernel
theorem d_B_search_45 : decode b_B_search 45 = .ok (.iconst 0, 1) := by decide +kernel
theorem d_B_search_46 : decode b_B_search 46 = .ok (.istore_n 1, 1) := by decide +kernel
theorem d_B_search_47 : decode b_B_search 47 = .ok (.iload_n 1, 1) := by decide +kernel
theorem d_B_search_48 : decode b_B_search 48 = .ok (.aload_n 0, 1) := by decide +kernel
theorem d_B_search_49 : decode b_B_search 49 = .ok (.getfield 39, 3) := by decide +kernel
theorem d_B_search_52 : decode b_B_search 52 = .ok (.getfield 211, 3) := by decide +kernel
theorem d_B_search_55 : decode b_B_search 55 = .ok (.if_icmp .ge 60, 3) := by decide +kernel
theorem d_B_search_58 : decode b_B_search 58 = .ok (.aload_n 0, 1) := by decide +kernel
theorem d_B_search_59 : decode b_B_search 59 = .ok (.getfield 39, 3) := by decide +kernel
theorem d_B_search_62 : decode b_B_search 62 = .ok (.getfield 212, 3) := by decide +kernel
theorem d_B_search_65 : decode b_B_search 65 = .ok (.iload_n 1, 1) := by decide +kernel
theorem d_B_search_66 : decode b_B_search 66 = .ok (.baload, 1) := by decide +kernel
theorem d_B_search_67 : decode b_B_search 67 = .ok (.ifCond .eq 42, 3) := by decide +kernel
theorem d_B_search_70 : decode b_B_search 70 = .ok (.aload_n 0, 1) := by decide +kernel
theorem d_B_search_71 : decode b_B_search 71 = .ok (.getfield 53, 3) := by decide +kernel
theorem d_B_search_74 : decode b_B_search 74 = .ok (.aload_n 0, 1) := by decide +kernel
theorem d_B_search_75 : decode b_B_search 75 = .ok (.getfield 46, 3) := by decide +kernel
theorem d_B_search_78 : decode b_B_search 78 = .ok (.aload_n 0, 1) := by decide +kernel
theorem d_B_search_79 : decode b_B_search 79 = .ok (.getfield 39, 3) := by decide +kernel
theorem d_B_search_82 : decode b_B_search 82 = .ok (.getfield 216, 3) := by decide +kernel
theorem d_B_search_85 : decode b_B_search 85 = .ok (.iload_n 1, 1) := by decide +kernel
theorem d_B_search_86 : decode b_B_search 86 = .ok (.aaload, 1) := by decide +kernel
theorem d_B_search_87 : decode b_B_search 87 = .ok (.invokevirtual 220, 3) := by decide +kernel
theorem d_B_search_90 : decode b_B_search 90 = .ok (.istore_n 2, 1) := by decide +kernel
theorem d_B_search_91 : decode b_B_search 91 = .ok (.iload_n 2, 1) := by decide +kernel
theorem d_B_search_92 : decode b_B_search 92 = .ok (.iconst (-1), 1) := by decide +kernel
theorem d_B_search_93 : decode b_B_search 93 = .ok (.if_icmp .eq 16, 3) := by decide +kernel
theorem d_B_search_96 : decode b_B_search 96 = .ok (.aload_n 0, 1) := by decide +kernel
theorem d_B_search_97 : decode b_B_search 97 = .ok (.getfield 60, 3) := by decide +kernel
theorem d_B_search_100 : decode b_B_search 100 = .ok (.aload_n 0, 1) := by decide +kernel
theorem d_B_search_101 : decode b_B_search 101 = .ok (.getfield 39, 3) := by decide +kernel
theorem d_B_search_104 : decode b_B_search 104 = .ok (.iload_n 1, 1) := by decide +kernel
theorem d_B_search_105 : decode b_B_search 105 = .ok (.iload_n 2, 1) := by decide +kernel
theorem d_B_search_106 : decode b_B_search 106 = .ok (.invokevirtual 224, 3) := by decide +kernel
theorem d_B_search_109 : decode b_B_search 109 = .ok (.iinc 1 1, 3) := by decide +kernel
theorem d_B_search_112 : decode b_B_search 112 = .ok (.goto (-65), 3) := by decide +kernel
theorem d_B_search_115 : decode b_B_search 115 = .ok (.aload_n 0, 1) := by decide +kernel
theorem d_B_search_116 : decode b_B_search 116 = .ok (.getfield 60, 3) := by decide +kernel
theorem d_B_search_119 : decode b_B_search 119 = .ok (.getfield 228, 3) := by decide +kernel
theorem d_B_search_122 : decode b_B_search 122 = .ok (.ireturn, 1) := by decide +kernel
theorem d_B_hit_0 : decode b_B_hit 0 = .ok (.iload_n 2, 1) := by decide +kernel
theorem d_B_hit_1 : decode b_B_hit 1 = .ok (.ifCond .lt 8, 3) := by decide +kernel
theorem d_B_hit_4 : decode b_B_hit 4 = .ok (.iload_n 2, 1) := by decide +kernel
theorem d_B_hit_5 : decode b_B_hit 5 = .ok (.iconst 5, 1) := by decide +kernel
theorem d_B_hit_6 : decode b_B_hit 6 = .ok (.if_icmp .lt 5, 3) := by decide +kernel
theorem d_B_hit_9 : decode b_B_hit 9 = .ok (.iconst (-1), 1) := by decide +kernel
theorem d_B_hit_10 : decode b_B_hit 10 = .ok (.ireturn, 1) := by decide +kernel
theorem d_B_hit_11 : decode b_B_hit 11 = .ok (.iload_n 1, 1) := by decide +kernel
theorem d_B_hit_12 : decode b_B_hit 12 = .ok (.ifCond .lt 14, 3) := by decide +kernel
theorem d_B_hit_15 : decode b_B_hit 15 = .ok (.iload_n 1, 1) := by decide +kernel
theorem d_B_hit_16 : decode b_B_hit 16 = .ok (.aload_n 0, 1) := by decide +kernel
theorem d_B_hit_17 : decode b_B_hit 17 = .ok (.getfield 60, 3) := by decide +kernel
theorem d_B_hit_20 : decode b_B_hit 20 = .ok (.getfield 228, 3) := by decide +kernel
theorem d_B_hit_23 : decode b_B_hit 23 = .ok (.if_icmp .lt 6, 3) := by decide +kernel
theorem d_B_hit_26 : decode b_B_hit 26 = .ok (.bipush (-2), 2) := by decide +kernel
theorem d_B_hit_28 : decode b_B_hit 28 = .ok (.ireturn, 1) := by decide +kernel
theorem d_B_hit_29 : decode b_B_hit 29 = .ok (.aload_n 0, 1) := by decide +kernel
theorem d_B_hit_30 : decode b_B_hit 30 = .ok (.getfield 60, 3) := by decide +kernel
theorem d_B_hit_33 : decode b_B_hit 33 = .ok (.getfield 229, 3) := by decide +kernel
theorem d_B_hit_36 : decode b_B_hit 36 = .ok (.iload_n 1, 1) := by decide +kernel
theorem d_B_hit_37 : decode b_B_hit 37 = .ok (.aaload, 1) := by decide +kernel
theorem d_B_hit_38 : decode b_B_hit 38 = .ok (.iload_n 2, 1) := by decide +kernel
theorem d_B_hit_39 : decode b_B_hit 39 = .ok (.iaload, 1) := by decide +kernel
theorem d_B_hit_40 : decode b_B_hit 40 = .ok (.ireturn, 1) := by decide +kernel
theorem d_B_score_0 : decode b_B_score 0 = .ok (.aload_n 0, 1) := by decide +kernel
theorem d_B_score_1 : decode b_B_score 1 = .ok (.getfield 46, 3) := by decide +kernel
theorem d_B_score_4 : decode b_B_score 4 = .ok (.invokevirtual 185, 3) := by decide +kernel
theorem d_B_score_7 : decode b_B_score 7 = .ok (.ifCond .eq 13, 3) := by decide +kernel
theorem d_B_score_10 : decode b_B_score 10 = .ok (.aload_n 0, 1) := by decide +kernel
theorem d_B_score_11 : decode b_B_score 11 = .ok (.getfield 39, 3) := by decide +kernel
theorem d_B_score_14 : decode b_B_score 14 = .ok (.getfield 202, 3) := by decide +kernel
theorem d_B_score_17 : decode b_B_score 17 = .ok (.ifCond .ne 6, 3) := by decide +kernel
theorem d_B_score_20 : decode b_B_score 20 = .ok (.bipush (-2), 2) := by decide +kernel
theorem d_B_score_22 : decode b_B_score 22 = .ok (.ireturn, 1) := by decide +kernel
theorem d_B_score_23 : decode b_B_score 23 = .ok (.aload_n 0, 1) := by decide +kernel
theorem d_B_score_24 : decode b_B_score 24 = .ok (.getfield 39, 3) := by decide +kernel
theorem d_B_score_27 : decode b_B_score 27 = .ok (.iload_n 1, 1) := by decide +kernel
theorem d_B_score_28 : decode b_B_score 28 = .ok (.invokevirtual 233, 3) := by decide +kernel
theorem d_B_score_31 : decode b_B_score 31 = .ok (.astore_n 2, 1) := by decide +kernel
theorem d_B_score_32 : decode b_B_score 32 = .ok (.aload_n 2, 1) := by decide +kernel
theorem d_B_score_33 : decode b_B_score 33 = .ok (.ifnonnull 6, 3) := by decide +kernel
theorem d_B_score_36 : decode b_B_score 36 = .ok (.bipush (-2), 2) := by decide +kernel
theorem d_B_score_38 : decode b_B_score 38 = .ok (.ireturn, 1) := by decide +kernel
theorem d_B_score_39 : decode b_B_score 39 = .ok (.aload_n 0, 1) := by decide +kernel
theorem d_B_score_40 : decode b_B_score 40 = .ok (.getfield 53, 3) := by decide +kernel
theorem d_B_score_43 : decode b_B_score 43 = .ok (.aload_n 0, 1) := by decide +kernel
theorem d_B_score_44 : decode b_B_score 44 = .ok (.getfield 46, 3) := by decide +kernel
theorem d_B_score_47 : decode b_B_score 47 = .ok (.aload_n 0, 1) := by decide +kernel
theorem d_B_score_48 : decode b_B_score 48 = .ok (.getfield 39, 3) := by decide +kernel
theorem d_B_score_51 : decode b_B_score 51 = .ok (.invokevirtual 206, 3) := by decide +kernel
theorem d_B_score_54 : decode b_B_score 54 = .ok (.aload_n 0, 1) := by decide +kernel
theorem d_B_score_55 : decode b_B_score 55 = .ok (.getfield 53, 3) := by decide +kernel
theorem d_B_score_58 : decode b_B_score 58 = .ok (.aload_n 0, 1) := by decide +kernel
theorem d_B_score_59 : decode b_B_score 59 = .ok (.getfield 46, 3) := by decide +kernel
theorem d_B_score_62 : decode b_B_score 62 = .ok (.aload_n 2, 1) := by decide +kernel
theorem d_B_score_63 : decode b_B_score 63 = .ok (.invokevirtual 220, 3) := by decide +kernel
theorem d_B_score_66 : decode b_B_score 66 = .ok (.istore_n 3, 1) := by decide +kernel
theorem d_B_score_67 : decode b_B_score 67 = .ok (.iload_n 3, 1) := by decide +kernel
theorem d_B_score_68 : decode b_B_score 68 = .ok (.iconst (-1), 1) := by decide +kernel
theorem d_B_score_69 : decode b_B_score 69 = .ok (.if_icmp .ne 8, 3) := by decide +kernel
theorem d_B_score_72 : decode b_B_score 72 = .ok (.bipush (-2), 2) := by decide +kernel
theorem d_B_score_74 : decode b_B_score 74 = .ok (.goto 4, 3) := by decide +kernel
theorem d_B_score_77 : decode b_B_score 77 = .ok (.iload_n 3, 1) := by decide +kernel
theorem d_B_score_78 : decode b_B_score 78 = .ok (.ireturn, 1) := by decide +kernel
theorem d_B_object_0 : decode b_B_object 0 = .ok (.iload_n 3, 1) := by decide +kernel
theorem d_B_object_1 : decode b_B_object 1 = .ok (.bipush 10, 2) := by decide +kernel
theorem d_B_object_3 : decode b_B_object 3 = .ok (.if_icmp .lt 13, 3) := by decide +kernel
theorem d_B_object_6 : decode b_B_object 6 = .ok (.iload_n 3, 1) := by decide +kernel
theorem d_B_object_7 : decode b_B_object 7 = .ok (.bipush 14, 2) := by decide +kernel
theorem d_B_object_9 : decode b_B_object 9 = .ok (.if_icmp .ge 7, 3) := by decide +kernel
theorem d_B_object_12 : decode b_B_object 12 = .ok (.iconst 1, 1) := by decide +kernel
theorem d_B_object_13 : decode b_B_object 13 = .ok (.goto 4, 3) := by decide +kernel
theorem d_B_object_16 : decode b_B_object 16 = .ok (.iconst 0, 1) := by decide +kernel
theorem d_B_object_17 : decode b_B_object 17 = .ok (.istore 4, 2) := by decide +kernel
theorem d_B_object_19 : decode b_B_object 19 = .ok (.iload 4, 2) := by decide +kernel
theorem d_B_object_21 : decode b_B_object 21 = .ok (.ifCond .ne 14, 3) := by decide +kernel
theorem d_B_object_24 : decode b_B_object 24 = .ok (.iload_n 3, 1) := by decide +kernel
theorem d_B_object_25 : decode b_B_object 25 = .ok (.ifCond .lt 8, 3) := by decide +kernel
theorem d_B_object_28 : decode b_B_object 28 = .ok (.iload_n 3, 1) := by decide +kernel
theorem d_B_object_29 : decode b_B_object 29 = .ok (.iconst 4, 1) := by decide +kernel
theorem d_B_object_30 : decode b_B_object 30 = .ok (.if_icmp .le 5, 3) := by decide +kernel
theorem d_B_object_33 : decode b_B_object 33 = .ok (.iconst (-1), 1) := by decide +kernel
theorem d_B_object_34 : decode b_B_object 34 = .ok (.ireturn, 1) := by decide +kernel
theorem d_B_object_35 : decode b_B_object 35 = .ok (.iload_n 1, 1) := by decide +kernel
theorem d_B_object_36 : decode b_B_object 36 = .ok (.ifCond .lt 15, 3) := by decide +kernel
theorem d_B_object_39 : decode b_B_object 39 = .ok (.iload_n 1, 1) := by decide +kernel
theorem d_B_object_40 : decode b_B_object 40 = .ok (.aload_n 0, 1) := by decide +kernel
theorem d_B_object_41 : decode b_B_object 41 = .ok (.getfield 64, 3) := by decide +kernel
theorem d_B_object_44 : decode b_B_object 44 = .ok (.if_icmp .ge 7, 3) := by decide +kernel
theorem d_B_object_47 : decode b_B_object 47 = .ok (.iload_n 2, 1) := by decide +kernel
theorem d_B_object_48 : decode b_B_object 48 = .ok (.ifCond .ge 6, 3) := by decide +kernel
theorem d_B_object_51 : decode b_B_object 51 = .ok (.bipush (-2), 2) := by decide +kernel
theorem d_B_object_53 : decode b_B_object 53 = .ok (.ireturn, 1) := by decide +kernel
theorem d_B_object_54 : decode b_B_object 54 = .ok (.aload_n 0, 1) := by decide +kernel
theorem d_B_object_55 : decode b_B_object 55 = .ok (.getfield 32, 3) := by decide +kernel
theorem d_B_object_58 : decode b_B_object 58 = .ok (.iload_n 1, 1) := by decide +kernel
theorem d_B_object_59 : decode b_B_object 59 = .ok (.aaload, 1) := by decide +kernel
theorem d_B_object_60 : decode b_B_object 60 = .ok (.iload_n 2, 1) := by decide +kernel
theorem d_B_object_61 : decode b_B_object 61 = .ok (.iload_n 3, 1) := by decide +kernel
theorem d_B_object_62 : decode b_B_object 62 = .ok (.invokevirtual 237, 3) := by decide +kernel
theorem d_B_object_65 : decode b_B_object 65 = .ok (.ireturn, 1) := by decide +kernel
theorem d_B_type_0 : decode b_B_type 0 = .ok (.iload_n 1, 1) := by decide +kernel
theorem d_B_type_1 : decode b_B_type 1 = .ok (.invokestatic 74, 3) := by decide +kernel
theorem d_B_type_4 : decode b_B_type 4 = .ok (.ifCond .eq 10, 3) := by decide +kernel
theorem d_B_type_7 : decode b_B_type 7 = .ok (.iload_n 2, 1) := by decide +kernel
theorem d_B_type_8 : decode b_B_type 8 = .ok (.invokestatic 87, 3) := by decide +kernel
theorem d_B_type_11 : decode b_B_type 11 = .ok (.ifCond .ne 5, 3) := by decide +kernel
theorem d_B_type_14 : decode b_B_type 14 = .ok (.iconst (-1), 1) := by decide +kernel
theorem d_B_type_15 : decode b_B_type 15 = .ok (.ireturn, 1) := by decide +kernel
theorem d_B_type_16 : decode b_B_type 16 = .ok (.aload_n 0, 1) := by decide +kernel
theorem d_B_type_17 : decode b_B_type 17 = .ok (.getfield 19, 3) := by decide +kernel
theorem d_B_type_20 : decode b_B_type 20 = .ok (.getfield 241, 3) := by decide +kernel
theorem d_B_type_23 : decode b_B_type 23 = .ok (.iload_n 1, 1) := by decide +kernel
theorem d_B_type_24 : decode b_B_type 24 = .ok (.aaload, 1) := by decide +kernel
theorem d_B_type_25 : decode b_B_type 25 = .ok (.iload_n 2, 1) := by decide +kernel
theorem d_B_type_26 : decode b_B_type 26 = .ok (.iaload, 1) := by decide +kernel
theorem d_B_type_27 : decode b_B_type 27 = .ok (.ireturn, 1) := by decide +kernel
theorem d_B_count_0 : decode b_B_count 0 = .ok (.iload_n 1, 1) := by decide +kernel
theorem d_B_count_1 : decode b_B_count 1 = .ok (.tableswitch 128 0 9 #[55, 60, 68, 76, 89, 94, 99, 107, 115, 123], 55) := by decide +kernel
theorem d_B_count_56 : decode b_B_count 56 = .ok (.aload_n 0, 1) := by decide +kernel
theorem d_B_count_57 : decode b_B_count 57 = .ok (.getfield 64, 3) := by decide +kernel
theorem d_B_count_60 : decode b_B_count 60 = .ok (.ireturn, 1) := by decide +kernel
theorem d_B_count_61 : decode b_B_count 61 = .ok (.aload_n 0, 1) := by decide +kernel
theorem d_B_count_62 : decode b_B_count 62 = .ok (.getfield 10, 3) := by decide +kernel
theorem d_B_count_65 : decode b_B_count 65 = .ok (.getfield 81, 3) := by decide +kernel
theorem d_B_count_68 : decode b_B_count 68 = .ok (.ireturn, 1) := by decide +kernel
theorem d_B_count_69 : decode b_B_count 69 = .ok (.aload_n 0, 1) := by decide +kernel
theorem d_B_count_70 : decode b_B_count 70 = .ok (.getfield 28, 3) := by decide +kernel
theorem d_B_count_73 : decode b_B_count 73 = .ok (.getfield 136, 3) := by decide +kernel
theorem d_B_count_76 : decode b_B_count 76 = .ok (.ireturn, 1) := by decide +kernel
theorem d_B_count_77 : decode b_B_count 77 = .ok (.aload_n 0, 1) := by decide +kernel
theorem d_B_count_78 : decode b_B_count 78 = .ok (.getfield 28, 3) := by decide +kernel
theorem d_B_count_81 : decode b_B_count 81 = .ok (.invokevirtual 155, 3) := by decide +kernel
theorem d_B_count_84 : decode b_B_count 84 = .ok (.aload_n 0, 1) := by decide +kernel
theorem d_B_count_85 : decode b_B_count 85 = .ok (.invokevirtual 243, 3) := by decide +kernel
theorem d_B_count_88 : decode b_B_count 88 = .ok (.iadd, 1) := by decide +kernel
theorem d_B_count_89 : decode b_B_count 89 = .ok (.ireturn, 1) := by decide +kernel
theorem d_B_count_90 : decode b_B_count 90 = .ok (.aload_n 0, 1) := by decide +kernel
theorem d_B_count_91 : decode b_B_count 91 = .ok (.invokevirtual 246, 3) := by decide +kernel
theorem d_B_count_94 : decode b_B_count 94 = .ok (.ireturn, 1) := by decide +kernel
theorem d_B_count_95 : decode b_B_count 95 = .ok (.aload_n 0, 1) := by decide +kernel
theorem d_B_count_96 : decode b_B_count 96 = .ok (.getfield 68, 3) := by decide +kernel
theorem d_B_count_99 : decode b_B_count 99 = .ok (.ireturn, 1) := by decide +kernel
theorem d_B_count_100 : decode b_B_count 100 = .ok (.aload_n 0, 1) := by decide +kernel
theorem d_B_count_101 : decode b_B_count 101 = .ok (.getfield 19, 3) := by decide +kernel
theorem d_B_count_104 : decode b_B_count 104 = .ok (.getfield 249, 3) := by decide +kernel
theorem d_B_count_107 : decode b_B_count 107 = .ok (.ireturn, 1) := by decide +kernel
theorem d_B_count_108 : decode b_B_count 108 = .ok (.aload_n 0, 1) := by decide +kernel
theorem d_B_count_109 : decode b_B_count 109 = .ok (.getfield 39, 3) := by decide +kernel
theorem d_B_count_112 : decode b_B_count 112 = .ok (.getfield 211, 3) := by decide +kernel
theorem d_B_count_115 : decode b_B_count 115 = .ok (.ireturn, 1) := by decide +kernel
theorem d_B_count_116 : decode b_B_count 116 = .ok (.aload_n 0, 1) := by decide +kernel
theorem d_B_count_117 : decode b_B_count 117 = .ok (.getfield 60, 3) := by decide +kernel
theorem d_B_count_120 : decode b_B_count 120 = .ok (.getfield 228, 3) := by decide +kernel
theorem d_B_count_123 : decode b_B_count 123 = .ok (.ireturn, 1) := by decide +kernel
theorem d_B_count_124 : decode b_B_count 124 = .ok (.aload_n 0, 1) := by decide +kernel
theorem d_B_count_125 : decode b_B_count 125 = .ok (.getfield 71, 3) := by decide +kernel
theorem d_B_count_128 : decode b_B_count 128 = .ok (.ireturn, 1) := by decide +kernel
theorem d_B_count_129 : decode b_B_count 129 = .ok (.aload_n 0, 1) := by decide +kernel
theorem d_B_count_130 : decode b_B_count 130 = .ok (.iload_n 1, 1) := by decide +kernel
theorem d_B_count_131 : decode b_B_count 131 = .ok (.invokevirtual 252, 3) := by decide +kernel
theorem d_B_count_134 : decode b_B_count 134 = .ok (.ireturn, 1) := by decide +kernel
theorem d_B_segmentFact_0 : decode b_B_segmentFact 0 = .ok (.iload_n 1, 1) := by decide +kernel
theorem d_B_segmentFact_1 : decode b_B_segmentFact 1 = .ok (.bipush 20, 2) := by decide +kernel
theorem d_B_segmentFact_3 : decode b_B_segmentFact 3 = .ok (.if_icmp .lt 37, 3) := by decide +kernel
theorem d_B_segmentFact_6 : decode b_B_segmentFact 6 = .ok (.iload_n 1, 1) := by decide +kernel
theorem d_B_segmentFact_7 : decode b_B_segmentFact 7 = .ok (.bipush 26, 2) := by decide +kernel
theorem d_B_segmentFact_9 : decode b_B_segmentFact 9 = .ok (.if_icmp .ge 31, 3) := by decide +kernel
theorem d_B_segmentFact_12 : decode b_B_segmentFact 12 = .ok (.iload_n 1, 1) := by decide +kernel
theorem d_B_segmentFact_13 : decode b_B_segmentFact 13 = .ok (.bipush 20, 2) := by decide +kernel
theorem d_B_segmentFact_15 : decode b_B_segmentFact 15 = .ok (.isub, 1) := by decide +kernel
theorem d_B_segmentFact_16 : decode b_B_segmentFact 16 = .ok (.istore_n 2, 1) := by decide +kernel
theorem d_B_segmentFact_17 : decode b_B_segmentFact 17 = .ok (.iload_n 2, 1) := by decide +kernel
theorem d_B_segmentFact_18 : decode b_B_segmentFact 18 = .ok (.aload_n 0, 1) := by decide +kernel
theorem d_B_segmentFact_19 : decode b_B_segmentFact 19 = .ok (.getfield 64, 3) := by decide +kernel
theorem d_B_segmentFact_22 : decode b_B_segmentFact 22 = .ok (.if_icmp .ge 15, 3) := by decide +kernel
theorem d_B_segmentFact_25 : decode b_B_segmentFact 25 = .ok (.aload_n 0, 1) := by decide +kernel
theorem d_B_segmentFact_26 : decode b_B_segmentFact 26 = .ok (.getfield 32, 3) := by decide +kernel
theorem d_B_segmentFact_29 : decode b_B_segmentFact 29 = .ok (.iload_n 2, 1) := by decide +kernel
theorem d_B_segmentFact_30 : decode b_B_segmentFact 30 = .ok (.aaload, 1) := by decide +kernel
theorem d_B_segmentFact_31 : decode b_B_segmentFact 31 = .ok (.getfield 136, 3) := by decide +kernel
theorem d_B_segmentFact_34 : decode b_B_segmentFact 34 = .ok (.goto 5, 3) := by decide +kernel
theorem d_B_segmentFact_37 : decode b_B_segmentFact 37 = .ok (.bipush (-2), 2) := by decide +kernel
theorem d_B_segmentFact_39 : decode b_B_segmentFact 39 = .ok (.ireturn, 1) := by decide +kernel
theorem d_B_segmentFact_40 : decode b_B_segmentFact 40 = .ok (.iload_n 1, 1) := by decide +kernel
theorem d_B_segmentFact_41 : decode b_B_segmentFact 41 = .ok (.bipush 30, 2) := by decide +kernel
theorem d_B_segmentFact_43 : decode b_B_segmentFact 43 = .ok (.if_icmp .lt 37, 3) := by decide +kernel
theorem d_B_segmentFact_46 : decode b_B_segmentFact 46 = .ok (.iload_n 1, 1) := by decide +kernel
theorem d_B_segmentFact_47 : decode b_B_segmentFact 47 = .ok (.bipush 36, 2) := by decide +kernel
theorem d_B_segmentFact_49 : decode b_B_segmentFact 49 = .ok (.if_icmp .ge 31, 3) := by decide +kernel
theorem d_B_segmentFact_52 : decode b_B_segmentFact 52 = .ok (.iload_n 1, 1) := by decide +kernel
theorem d_B_segmentFact_53 : decode b_B_segmentFact 53 = .ok (.bipush 30, 2) := by decide +kernel
theorem d_B_segmentFact_55 : decode b_B_segmentFact 55 = .ok (.isub, 1) := by decide +kernel
theorem d_B_segmentFact_56 : decode b_B_segmentFact 56 = .ok (.istore_n 2, 1) := by decide +kernel
theorem d_B_segmentFact_57 : decode b_B_segmentFact 57 = .ok (.iload_n 2, 1) := by decide +kernel
theorem d_B_segmentFact_58 : decode b_B_segmentFact 58 = .ok (.aload_n 0, 1) := by decide +kernel
theorem d_B_segmentFact_59 : decode b_B_segmentFact 59 = .ok (.getfield 64, 3) := by decide +kernel
theorem d_B_segmentFact_62 : decode b_B_segmentFact 62 = .ok (.if_icmp .ge 15, 3) := by decide +kernel
theorem d_B_segmentFact_65 : decode b_B_segmentFact 65 = .ok (.aload_n 0, 1) := by decide +kernel
theorem d_B_segmentFact_66 : decode b_B_segmentFact 66 = .ok (.getfield 32, 3) := by decide +kernel
theorem d_B_segmentFact_69 : decode b_B_segmentFact 69 = .ok (.iload_n 2, 1) := by decide +kernel
theorem d_B_segmentFact_70 : decode b_B_segmentFact 70 = .ok (.aaload, 1) := by decide +kernel
theorem d_B_segmentFact_71 : decode b_B_segmentFact 71 = .ok (.invokevirtual 155, 3) := by decide +kernel
theorem d_B_segmentFact_74 : decode b_B_segmentFact 74 = .ok (.goto 5, 3) := by decide +kernel
theorem d_B_segmentFact_77 : decode b_B_segmentFact 77 = .ok (.bipush (-2), 2) := by decide +kernel
theorem d_B_segmentFact_79 : decode b_B_segmentFact 79 = .ok (.ireturn, 1) := by decide +kernel
theorem d_B_segmentFact_80 : decode b_B_segmentFact 80 = .ok (.iconst (-1), 1) := by decide +kernel
theorem d_B_segmentFact_81 : decode b_B_segmentFact 81 = .ok (.ireturn, 1) := by decide +kernel
theorem d_B_liveInSegments_0 : decode b_B_liveInSegments 0 = .ok (.iconst 0, 1) := by decide +kernel
theorem d_B_liveInSegments_1 : decode b_B_liveInSegments 1 = .ok (.istore_n 1, 1) := by decide +kernel
theorem d_B_liveInSegments_2 : decode b_B_liveInSegments 2 = .ok (.iconst 0, 1) := by decide +kernel
theorem d_B_liveInSegments_3 : decode b_B_liveInSegments 3 = .ok (.istore_n 2, 1) := by decide +kernel
theorem d_B_liveInSegments_4 : decode b_B_liveInSegments 4 = .ok (.iload_n 2, 1) := by decide +kernel
theorem d_B_liveInSegments_5 : decode b_B_liveInSegments 5 = .ok (.aload_n 0, 1) := by decide +kernel
theorem d_B_liveInSegments_6 : decode b_B_liveInSegments 6 = .ok (.getfield 64, 3) := by decide +kernel
theorem d_B_liveInSegments_9 : decode b_B_liveInSegments 9 = .ok (.if_icmp .ge 21, 3) := by decide +kernel
theorem d_B_liveInSegments_12 : decode b_B_liveInSegments 12 = .ok (.iload_n 1, 1) := by decide +kernel
theorem d_B_liveInSegments_13 : decode b_B_liveInSegments 13 = .ok (.aload_n 0, 1) := by decide +kernel
theorem d_B_liveInSegments_14 : decode b_B_liveInSegments 14 = .ok (.getfield 32, 3) := by decide +kernel
theorem d_B_liveInSegments_17 : decode b_B_liveInSegments 17 = .ok (.iload_n 2, 1) := by decide +kernel
theorem d_B_liveInSegments_18 : decode b_B_liveInSegments 18 = .ok (.aaload, 1) := by decide +kernel
theorem d_B_liveInSegments_19 : decode b_B_liveInSegments 19 = .ok (.invokevirtual 155, 3) := by decide +kernel
theorem d_B_liveInSegments_22 : decode b_B_liveInSegments 22 = .ok (.iadd, 1) := by decide +kernel
theorem d_B_liveInSegments_23 : decode b_B_liveInSegments 23 = .ok (.istore_n 1, 1) := by decide +kernel
theorem d_B_liveInSegments_24 : decode b_B_liveInSegments 24 = .ok (.iinc 2 1, 3) := by decide +kernel
theorem d_B_liveInSegments_27 : decode b_B_liveInSegments 27 = .ok (.goto (-23), 3) := by decide +kernel
theorem d_B_liveInSegments_30 : decode b_B_liveInSegments 30 = .ok (.iload_n 1, 1) := by decide +kernel
theorem d_B_liveInSegments_31 : decode b_B_liveInSegments 31 = .ok (.ireturn, 1) := by decide +kernel
theorem d_B_deletedInSegments_0 : decode b_B_deletedInSegments 0 = .ok (.iconst 0, 1) := by decide +kernel
theorem d_B_deletedInSegments_1 : decode b_B_deletedInSegments 1 = .ok (.istore_n 1, 1) := by decide +kernel
theorem d_B_deletedInSegments_2 : decode b_B_deletedInSegments 2 = .ok (.iconst 0, 1) := by decide +kernel
theorem d_B_deletedInSegments_3 : decode b_B_deletedInSegments 3 = .ok (.istore_n 2, 1) := by decide +kernel
theorem d_B_deletedInSegments_4 : decode b_B_deletedInSegments 4 = .ok (.iload_n 2, 1) := by decide +kernel
theorem d_B_deletedInSegments_5 : decode b_B_deletedInSegments 5 = .ok (.aload_n 0, 1) := by decide +kernel
theorem d_B_deletedInSegments_6 : decode b_B_deletedInSegments 6 = .ok (.getfield 64, 3) := by decide +kernel
theorem d_B_deletedInSegments_9 : decode b_B_deletedInSegments 9 = .ok (.if_icmp .ge 21, 3) := by decide +kernel
theorem d_B_deletedInSegments_12 : decode b_B_deletedInSegments 12 = .ok (.iload_n 1, 1) := by decide +kernel
theorem d_B_deletedInSegments_13 : decode b_B_deletedInSegments 13 = .ok (.aload_n 0, 1) := by decide +kernel
theorem d_B_deletedInSegments_14 : decode b_B_deletedInSegments 14 = .ok (.getfield 32, 3) := by decide +kernel
theorem d_B_deletedInSegments_17 : decode b_B_deletedInSegments 17 = .ok (.iload_n 2, 1) := by decide +kernel
theorem d_B_deletedInSegments_18 : decode b_B_deletedInSegments 18 = .ok (.aaload, 1) := by decide +kernel
theorem d_B_deletedInSegments_19 : decode b_B_deletedInSegments 19 = .ok (.invokevirtual 164, 3) := by decide +kernel
theorem d_B_deletedInSegments_22 : decode b_B_deletedInSegments 22 = .ok (.iadd, 1) := by decide +kernel
theorem d_B_deletedInSegments_23 : decode b_B_deletedInSegments 23 = .ok (.istore_n 1, 1) := by decide +kernel
theorem d_B_deletedInSegments_24 : decode b_B_deletedInSegments 24 = .ok (.iinc 2 1, 3) := by decide +kernel
theorem d_B_deletedInSegments_27 : decode b_B_deletedInSegments 27 = .ok (.goto (-23), 3) := by decide +kernel
theorem d_B_deletedInSegments_30 : decode b_B_deletedInSegments 30 = .ok (.iload_n 1, 1) := by decide +kernel
theorem d_B_deletedInSegments_31 : decode b_B_deletedInSegments 31 = .ok (.ireturn, 1) := by decide +kernel
theorem d_B_deleteLive_0 : decode b_B_deleteLive 0 = .ok (.aload_n 0, 1) := by decide +kernel
theorem d_B_deleteLive_1 : decode b_B_deleteLive 1 = .ok (.getfield 28, 3) := by decide +kernel
theorem d_B_deleteLive_4 : decode b_B_deleteLive 4 = .ok (.iload_n 1, 1) := by decide +kernel
theorem d_B_deleteLive_5 : decode b_B_deleteLive 5 = .ok (.invokevirtual 256, 3) := by decide +kernel
theorem d_B_deleteLive_8 : decode b_B_deleteLive 8 = .ok (.astore_n 2, 1) := by decide +kernel
theorem d_B_deleteLive_9 : decode b_B_deleteLive 9 = .ok (.iconst 0, 1) := by decide +kernel
theorem d_B_deleteLive_10 : decode b_B_deleteLive 10 = .ok (.istore_n 3, 1) := by decide +kernel
theorem d_B_deleteLive_11 : decode b_B_deleteLive 11 = .ok (.iload_n 3, 1) := by decide +kernel
theorem d_B_deleteLive_12 : decode b_B_deleteLive 12 = .ok (.aload_n 0, 1) := by decide +kernel
theorem d_B_deleteLive_13 : decode b_B_deleteLive 13 = .ok (.getfield 64, 3) := by decide +kernel
theorem d_B_deleteLive_16 : decode b_B_deleteLive 16 = .ok (.if_icmp .ge 24, 3) := by decide +kernel
theorem d_B_deleteLive_19 : decode b_B_deleteLive 19 = .ok (.aload_n 2, 1) := by decide +kernel
theorem d_B_deleteLive_20 : decode b_B_deleteLive 20 = .ok (.ifnonnull 20, 3) := by decide +kernel
theorem d_B_deleteLive_23 : decode b_B_deleteLive 23 = .ok (.aload_n 0, 1) := by decide +kernel
theorem d_B_deleteLive_24 : decode b_B_deleteLive 24 = .ok (.getfield 32, 3) := by decide +kernel
theorem d_B_deleteLive_27 : decode b_B_deleteLive 27 = .ok (.iload_n 3, 1) := by decide +kernel
theorem d_B_deleteLive_28 : decode b_B_deleteLive 28 = .ok (.aaload, 1) := by decide +kernel
theorem d_B_deleteLive_29 : decode b_B_deleteLive 29 = .ok (.iload_n 1, 1) := by decide +kernel
theorem d_B_deleteLive_30 : decode b_B_deleteLive 30 = .ok (.invokevirtual 256, 3) := by decide +kernel
theorem d_B_deleteLive_33 : decode b_B_deleteLive 33 = .ok (.astore_n 2, 1) := by decide +kernel
theorem d_B_deleteLive_34 : decode b_B_deleteLive 34 = .ok (.iinc 3 1, 3) := by decide +kernel
theorem d_B_deleteLive_37 : decode b_B_deleteLive 37 = .ok (.goto (-26), 3) := by decide +kernel
theorem d_B_deleteLive_40 : decode b_B_deleteLive 40 = .ok (.aload_n 2, 1) := by decide +kernel
theorem d_B_deleteLive_41 : decode b_B_deleteLive 41 = .ok (.ifnonnull 5, 3) := by decide +kernel
theorem d_B_deleteLive_44 : decode b_B_deleteLive 44 = .ok (.iconst 0, 1) := by decide +kernel
theorem d_B_deleteLive_45 : decode b_B_deleteLive 45 = .ok (.ireturn, 1) := by decide +kernel
theorem d_B_deleteLive_46 : decode b_B_deleteLive 46 = .ok (.aload_n 2, 1) := by decide +kernel
theorem d_B_deleteLive_47 : decode b_B_deleteLive 47 = .ok (.iconst 0, 1) := by decide +kernel
theorem d_B_deleteLive_48 : decode b_B_deleteLive 48 = .ok (.putfield 257, 3) := by decide +kernel
theorem d_B_deleteLive_51 : decode b_B_deleteLive 51 = .ok (.iconst 1, 1) := by decide +kernel
theorem d_B_deleteLive_52 : decode b_B_deleteLive 52 = .ok (.ireturn, 1) := by decide +kernel
theorem d_B_mergedRow_0 : decode b_B_mergedRow 0 = .ok (.new 23, 3) := by decide +kernel
theorem d_B_mergedRow_3 : decode b_B_mergedRow 3 = .ok (.dup, 1) := by decide +kernel
theorem d_B_mergedRow_4 : decode b_B_mergedRow 4 = .ok (.iload_n 3, 1) := by decide +kernel
theorem d_B_mergedRow_5 : decode b_B_mergedRow 5 = .ok (.invokespecial 25, 3) := by decide +kernel
theorem d_B_mergedRow_8 : decode b_B_mergedRow 8 = .ok (.astore 4, 2) := by decide +kernel
theorem d_B_mergedRow_10 : decode b_B_mergedRow 10 = .ok (.iload_n 1, 1) := by decide +kernel
theorem d_B_mergedRow_11 : decode b_B_mergedRow 11 = .ok (.istore 5, 2) := by decide +kernel
theorem d_B_mergedRow_13 : decode b_B_mergedRow 13 = .ok (.iload 5, 2) := by decide +kernel
theorem d_B_mergedRow_15 : decode b_B_mergedRow 15 = .ok (.iload_n 1, 1) := by decide +kernel
theorem d_B_mergedRow_16 : decode b_B_mergedRow 16 = .ok (.iload_n 2, 1) := by decide +kernel
theorem d_B_mergedRow_17 : decode b_B_mergedRow 17 = .ok (.iadd, 1) := by decide +kernel
theorem d_B_mergedRow_18 : decode b_B_mergedRow 18 = .ok (.if_icmp .ge 21, 3) := by decide +kernel
theorem d_B_mergedRow_21 : decode b_B_mergedRow 21 = .ok (.aload 4, 2) := by decide +kernel
theorem d_B_mergedRow_23 : decode b_B_mergedRow 23 = .ok (.aload_n 0, 1) := by decide +kernel
theorem d_B_mergedRow_24 : decode b_B_mergedRow 24 = .ok (.getfield 32, 3) := by decide +kernel
theorem d_B_mergedRow_27 : decode b_B_mergedRow 27 = .ok (.iload 5, 2) := by decide +kernel
theorem d_B_mergedRow_29 : decode b_B_mergedRow 29 = .ok (.aaload, 1) := by decide +kernel
theorem d_B_mergedRow_30 : decode b_B_mergedRow 30 = .ok (.invokevirtual 159, 3) := by decide +kernel
theorem d_B_mergedRow_33 : decode b_B_mergedRow 33 = .ok (.iinc 5 1, 3) := by decide +kernel
theorem d_B_mergedRow_36 : decode b_B_mergedRow 36 = .ok (.goto (-23), 3) := by decide +kernel
theorem d_B_mergedRow_39 : decode b_B_mergedRow 39 = .ok (.aload 4, 2) := by decide +kernel
theorem d_B_mergedRow_41 : decode b_B_mergedRow 41 = .ok (.areturn, 1) := by decide +kernel
theorem d_B_moveDown_0 : decode b_B_moveDown 0 = .ok (.iload_n 1, 1) := by decide +kernel
theorem d_B_moveDown_1 : decode b_B_moveDown 1 = .ok (.istore_n 3, 1) := by decide +kernel
theorem d_B_moveDown_2 : decode b_B_moveDown 2 = .ok (.iload_n 3, 1) := by decide +kernel
theorem d_B_moveDown_3 : decode b_B_moveDown 3 = .ok (.aload_n 0, 1) := by decide +kernel
theorem d_B_moveDown_4 : decode b_B_moveDown 4 = .ok (.getfield 64, 3) := by decide +kernel
theorem d_B_moveDown_7 : decode b_B_moveDown 7 = .ok (.if_icmp .ge 23, 3) := by decide +kernel
theorem d_B_moveDown_10 : decode b_B_moveDown 10 = .ok (.aload_n 0, 1) := by decide +kernel
theorem d_B_moveDown_11 : decode b_B_moveDown 11 = .ok (.getfield 32, 3) := by decide +kernel
theorem d_B_moveDown_14 : decode b_B_moveDown 14 = .ok (.iload_n 3, 1) := by decide +kernel
theorem d_B_moveDown_15 : decode b_B_moveDown 15 = .ok (.iload_n 2, 1) := by decide +kernel
theorem d_B_moveDown_16 : decode b_B_moveDown 16 = .ok (.isub, 1) := by decide +kernel
theorem d_B_moveDown_17 : decode b_B_moveDown 17 = .ok (.aload_n 0, 1) := by decide +kernel
theorem d_B_moveDown_18 : decode b_B_moveDown 18 = .ok (.getfield 32, 3) := by decide +kernel
theorem d_B_moveDown_21 : decode b_B_moveDown 21 = .ok (.iload_n 3, 1) := by decide +kernel
theorem d_B_moveDown_22 : decode b_B_moveDown 22 = .ok (.aaload, 1) := by decide +kernel
theorem d_B_moveDown_23 : decode b_B_moveDown 23 = .ok (.aastore, 1) := by decide +kernel
theorem d_B_moveDown_24 : decode b_B_moveDown 24 = .ok (.iinc 3 1, 3) := by decide +kernel
theorem d_B_moveDown_27 : decode b_B_moveDown 27 = .ok (.goto (-25), 3) := by decide +kernel
theorem d_B_moveDown_30 : decode b_B_moveDown 30 = .ok (.aload_n 0, 1) := by decide +kernel
theorem d_B_moveDown_31 : decode b_B_moveDown 31 = .ok (.dup, 1) := by decide +kernel
theorem d_B_moveDown_32 : decode b_B_moveDown 32 = .ok (.getfield 64, 3) := by decide +kernel
theorem d_B_moveDown_35 : decode b_B_moveDown 35 = .ok (.iload_n 2, 1) := by decide +kernel
theorem d_B_moveDown_36 : decode b_B_moveDown 36 = .ok (.isub, 1) := by decide +kernel
theorem d_B_moveDown_37 : decode b_B_moveDown 37 = .ok (.putfield 64, 3) := by decide +kernel
theorem d_B_moveDown_40 : decode b_B_moveDown 40 = .ok (.return_, 1) := by decide +kernel
theorem d_B_isPath_0 : decode b_B_isPath 0 = .ok (.iload_n 0, 1) := by decide +kernel
theorem d_B_isPath_1 : decode b_B_isPath 1 = .ok (.ifCond .lt 12, 3) := by decide +kernel
theorem d_B_isPath_4 : decode b_B_isPath 4 = .ok (.iload_n 0, 1) := by decide +kernel
theorem d_B_isPath_5 : decode b_B_isPath 5 = .ok (.iconst 4, 1) := by decide +kernel
theorem d_B_isPath_6 : decode b_B_isPath 6 = .ok (.if_icmp .ge 7, 3) := by decide +kernel
theorem d_B_isPath_9 : decode b_B_isPath 9 = .ok (.iconst 1, 1) := by decide +kernel
theorem d_B_isPath_10 : decode b_B_isPath 10 = .ok (.goto 4, 3) := by decide +kernel
theorem d_B_isPath_13 : decode b_B_isPath 13 = .ok (.iconst 0, 1) := by decide +kernel
theorem d_B_isPath_14 : decode b_B_isPath 14 = .ok (.ireturn, 1) := by decide +kernel
theorem d_B_isField_0 : decode b_B_isField 0 = .ok (.iload_n 0, 1) := by decide +kernel
theorem d_B_isField_1 : decode b_B_isField 1 = .ok (.ifCond .lt 12, 3) := by decide +kernel
theorem d_B_isField_4 : decode b_B_isField 4 = .ok (.iload_n 0, 1) := by decide +kernel
theorem d_B_isField_5 : decode b_B_isField 5 = .ok (.iconst 4, 1) := by decide +kernel
theorem d_B_isField_6 : decode b_B_isField 6 = .ok (.if_icmp .ge 7, 3) := by decide +kernel
theorem d_B_isField_9 : decode b_B_isField 9 = .ok (.iconst 1, 1) := by decide +kernel
theorem d_B_isField_10 : decode b_B_isField 10 = .ok (.goto 4, 3) := by decide +kernel
theorem d_B_isField_13 : decode b_B_isField 13 = .ok (.iconst 0, 1) := by decide +kernel
theorem d_B_isField_14 : decode b_B_isField 14 = .ok (.ireturn, 1) := by decide +kernel
theorem d_B_isNumber_0 : decode b_B_isNumber 0 = .ok (.iload_n 0, 1) := by decide +kernel
theorem d_B_isNumber_1 : decode b_B_isNumber 1 = .ok (.sipush (-1000), 3) := by decide +kernel
theorem d_B_isNumber_4 : decode b_B_isNumber 4 = .ok (.if_icmp .lt 14, 3) := by decide +kernel
theorem d_B_isNumber_7 : decode b_B_isNumber 7 = .ok (.iload_n 0, 1) := by decide +kernel
theorem d_B_isNumber_8 : decode b_B_isNumber 8 = .ok (.sipush 1000, 3) := by decide +kernel
theorem d_B_isNumber_11 : decode b_B_isNumber 11 = .ok (.if_icmp .gt 7, 3) := by decide +kernel
theorem d_B_isNumber_14 : decode b_B_isNumber 14 = .ok (.iconst 1, 1) := by decide +kernel
theorem d_B_isNumber_15 : decode b_B_isNumber 15 = .ok (.goto 4, 3) := by decide +kernel
theorem d_B_isNumber_18 : decode b_B_isNumber 18 = .ok (.iconst 0, 1) := by decide +kernel
theorem d_B_isNumber_19 : decode b_B_isNumber 19 = .ok (.ireturn, 1) := by decide +kernel
theorem d_B_isWord_0 : decode b_B_isWord 0 = .ok (.iload_n 0, 1) := by decide +kernel
theorem d_B_isWord_1 : decode b_B_isWord 1 = .ok (.ifCond .lt 13, 3) := by decide +kernel
theorem d_B_isWord_4 : decode b_B_isWord 4 = .ok (.iload_n 0, 1) := by decide +kernel
theorem d_B_isWord_5 : decode b_B_isWord 5 = .ok (.bipush 26, 2) := by decide +kernel
theorem d_B_isWord_7 : decode b_B_isWord 7 = .ok (.if_icmp .ge 7, 3) := by decide +kernel
theorem d_B_isWord_10 : decode b_B_isWord 10 = .ok (.iconst 1, 1) := by decide +kernel
theorem d_B_isWord_11 : decode b_B_isWord 11 = .ok (.goto 4, 3) := by decide +kernel
theorem d_B_isWord_14 : decode b_B_isWord 14 = .ok (.iconst 0, 1) := by decide +kernel
theorem d_B_isWord_15 : decode b_B_isWord 15 = .ok (.ireturn, 1) := by decide +kernel
theorem d_B_isId_0 : decode b_B_isId 0 = .ok (.iload_n 0, 1) := by decide +kernel
theorem d_B_isId_1 : decode b_B_isId 1 = .ok (.ifCond .lt 13, 3) := by decide +kernel
theorem d_B_isId_4 : decode b_B_isId 4 = .ok (.iload_n 0, 1) := by decide +kernel
theorem d_B_isId_5 : decode b_B_isId 5 = .ok (.bipush 20, 2) := by decide +kernel
theorem d_B_isId_7 : decode b_B_isId 7 = .ok (.if_icmp .ge 7, 3) := by decide +kernel
theorem d_B_isId_10 : decode b_B_isId 10 = .ok (.iconst 1, 1) := by decide +kernel
theorem d_B_isId_11 : decode b_B_isId 11 = .ok (.goto 4, 3) := by decide +kernel
theorem d_B_isId_14 : decode b_B_isId 14 = .ok (.iconst 0, 1) := by decide +kernel
theorem d_B_isId_15 : decode b_B_isId 15 = .ok (.ireturn, 1) := by decide +kernel
theorem d_B_isToken_0 : decode b_B_isToken 0 = .ok (.iload_n 0, 1) := by decide +kernel
theorem d_B_isToken_1 : decode b_B_isToken 1 = .ok (.tableswitch 120 0 8 #[51, 71, 71, 91, 96, 96, 96, 96, 98], 51) := by decide +kernel
theorem d_B_isToken_52 : decode b_B_isToken 52 = .ok (.iload_n 1, 1) := by decide +kernel
theorem d_B_isToken_53 : decode b_B_isToken 53 = .ok (.invokestatic 87, 3) := by decide +kernel
theorem d_B_isToken_56 : decode b_B_isToken 56 = .ok (.ifCond .eq 14, 3) := by decide +kernel
theorem d_B_isToken_59 : decode b_B_isToken 59 = .ok (.iload_n 2, 1) := by decide +kernel
theorem d_B_isToken_60 : decode b_B_isToken 60 = .ok (.invokestatic 103, 3) := by decide +kernel
theorem d_B_isToken_63 : decode b_B_isToken 63 = .ok (.ifCond .eq 7, 3) := by decide +kernel
theorem d_B_isToken_66 : decode b_B_isToken 66 = .ok (.iconst 1, 1) := by decide +kernel
theorem d_B_isToken_67 : decode b_B_isToken 67 = .ok (.goto 4, 3) := by decide +kernel
theorem d_B_isToken_70 : decode b_B_isToken 70 = .ok (.iconst 0, 1) := by decide +kernel
theorem d_B_isToken_71 : decode b_B_isToken 71 = .ok (.ireturn, 1) := by decide +kernel
theorem d_B_isToken_72 : decode b_B_isToken 72 = .ok (.iload_n 1, 1) := by decide +kernel
theorem d_B_isToken_73 : decode b_B_isToken 73 = .ok (.invokestatic 87, 3) := by decide +kernel
theorem d_B_isToken_76 : decode b_B_isToken 76 = .ok (.ifCond .eq 14, 3) := by decide +kernel
theorem d_B_isToken_79 : decode b_B_isToken 79 = .ok (.iload_n 2, 1) := by decide +kernel
theorem d_B_isToken_80 : decode b_B_isToken 80 = .ok (.invokestatic 90, 3) := by decide +kernel
theorem d_B_isToken_83 : decode b_B_isToken 83 = .ok (.ifCond .eq 7, 3) := by decide +kernel
theorem d_B_isToken_86 : decode b_B_isToken 86 = .ok (.iconst 1, 1) := by decide +kernel
theorem d_B_isToken_87 : decode b_B_isToken 87 = .ok (.goto 4, 3) := by decide +kernel
theorem d_B_isToken_90 : decode b_B_isToken 90 = .ok (.iconst 0, 1) := by decide +kernel
theorem d_B_isToken_91 : decode b_B_isToken 91 = .ok (.ireturn, 1) := by decide +kernel
theorem d_B_isToken_92 : decode b_B_isToken 92 = .ok (.iload_n 1, 1) := by decide +kernel
theorem d_B_isToken_93 : decode b_B_isToken 93 = .ok (.invokestatic 87, 3) := by decide +kernel
theorem d_B_isToken_96 : decode b_B_isToken 96 = .ok (.ireturn, 1) := by decide +kernel
theorem d_B_isToken_97 : decode b_B_isToken 97 = .ok (.iconst 1, 1) := by decide +kernel
theorem d_B_isToken_98 : decode b_B_isToken 98 = .ok (.ireturn, 1) := by decide +kernel
theorem d_B_isToken_99 : decode b_B_isToken 99 = .ok (.iload_n 1, 1) := by decide +kernel
theorem d_B_isToken_100 : decode b_B_isToken 100 = .ok (.invokestatic 74, 3) := by decide +kernel
theorem d_B_isToken_103 : decode b_B_isToken 103 = .ok (.ifCond .eq 16, 3) := by decide +kernel
theorem d_B_isToken_106 : decode b_B_isToken 106 = .ok (.iload_n 2, 1) := by decide +kernel
theorem d_B_isToken_107 : decode b_B_isToken 107 = .ok (.ifCond .lt 12, 3) := by decide +kernel
theorem d_B_isToken_110 : decode b_B_isToken 110 = .ok (.iload_n 2, 1) := by decide +kernel
theorem d_B_isToken_111 : decode b_B_isToken 111 = .ok (.iconst 4, 1) := by decide +kernel
theorem d_B_isToken_112 : decode b_B_isToken 112 = .ok (.if_icmp .gt 7, 3) := by decide +kernel
theorem d_B_isToken_115 : decode b_B_isToken 115 = .ok (.iconst 1, 1) := by decide +kernel
theorem d_B_isToken_116 : decode b_B_isToken 116 = .ok (.goto 4, 3) := by decide +kernel
theorem d_B_isToken_119 : decode b_B_isToken 119 = .ok (.iconst 0, 1) := by decide +kernel
theorem d_B_isToken_120 : decode b_B_isToken 120 = .ok (.ireturn, 1) := by decide +kernel
theorem d_B_isToken_121 : decode b_B_isToken 121 = .ok (.iconst 0, 1) := by decide +kernel
theorem d_B_isToken_122 : decode b_B_isToken 122 = .ok (.ireturn, 1) := by decide +kernel
theorem d_M_init_0 : decode b_M_init 0 = .ok (.aload_n 0, 1) := by decide +kernel
theorem d_M_init_1 : decode b_M_init 1 = .ok (.invokespecial 1, 3) := by decide +kernel
