theorem d_Rw_liveCount_33 : decode b_Rw_liveCount 33 = .ok (.iload_n 1, 1) := by decide +kernel
theorem d_Rw_liveCount_34 : decode b_Rw_liveCount 34 = .ok (.ireturn, 1) := by decide +kernel
theorem d_Rw_deletedCount_0 : decode b_Rw_deletedCount 0 = .ok (.aload_n 0, 1) := by decide +kernel
theorem d_Rw_deletedCount_1 : decode b_Rw_deletedCount 1 = .ok (.getfield 9, 3) := by decide +kernel
theorem d_Rw_deletedCount_4 : decode b_Rw_deletedCount 4 = .ok (.aload_n 0, 1) := by decide +kernel
theorem d_Rw_deletedCount_5 : decode b_Rw_deletedCount 5 = .ok (.invokevirtual 36, 3) := by decide +kernel
theorem d_Rw_deletedCount_8 : decode b_Rw_deletedCount 8 = .ok (.isub, 1) := by decide +kernel
theorem d_Rw_deletedCount_9 : decode b_Rw_deletedCount 9 = .ok (.ireturn, 1) := by decide +kernel
theorem d_Rw_liveWith_0 : decode b_Rw_liveWith 0 = .ok (.iconst 0, 1) := by decide +kernel
theorem d_Rw_liveWith_1 : decode b_Rw_liveWith 1 = .ok (.istore_n 2, 1) := by decide +kernel
theorem d_Rw_liveWith_2 : decode b_Rw_liveWith 2 = .ok (.iload_n 2, 1) := by decide +kernel
theorem d_Rw_liveWith_3 : decode b_Rw_liveWith 3 = .ok (.aload_n 0, 1) := by decide +kernel
theorem d_Rw_liveWith_4 : decode b_Rw_liveWith 4 = .ok (.getfield 9, 3) := by decide +kernel
theorem d_Rw_liveWith_7 : decode b_Rw_liveWith 7 = .ok (.if_icmp .ge 41, 3) := by decide +kernel
theorem d_Rw_liveWith_10 : decode b_Rw_liveWith 10 = .ok (.aload_n 0, 1) := by decide +kernel
theorem d_Rw_liveWith_11 : decode b_Rw_liveWith 11 = .ok (.getfield 20, 3) := by decide +kernel
theorem d_Rw_liveWith_14 : decode b_Rw_liveWith 14 = .ok (.iload_n 2, 1) := by decide +kernel
theorem d_Rw_liveWith_15 : decode b_Rw_liveWith 15 = .ok (.aaload, 1) := by decide +kernel
theorem d_Rw_liveWith_16 : decode b_Rw_liveWith 16 = .ok (.getfield 28, 3) := by decide +kernel
theorem d_Rw_liveWith_19 : decode b_Rw_liveWith 19 = .ok (.ifCond .eq 23, 3) := by decide +kernel
theorem d_Rw_liveWith_22 : decode b_Rw_liveWith 22 = .ok (.aload_n 0, 1) := by decide +kernel
theorem d_Rw_liveWith_23 : decode b_Rw_liveWith 23 = .ok (.getfield 20, 3) := by decide +kernel
theorem d_Rw_liveWith_26 : decode b_Rw_liveWith 26 = .ok (.iload_n 2, 1) := by decide +kernel
theorem d_Rw_liveWith_27 : decode b_Rw_liveWith 27 = .ok (.aaload, 1) := by decide +kernel
theorem d_Rw_liveWith_28 : decode b_Rw_liveWith 28 = .ok (.getfield 40, 3) := by decide +kernel
theorem d_Rw_liveWith_31 : decode b_Rw_liveWith 31 = .ok (.iload_n 1, 1) := by decide +kernel
theorem d_Rw_liveWith_32 : decode b_Rw_liveWith 32 = .ok (.if_icmp .ne 10, 3) := by decide +kernel
theorem d_Rw_liveWith_35 : decode b_Rw_liveWith 35 = .ok (.aload_n 0, 1) := by decide +kernel
theorem d_Rw_liveWith_36 : decode b_Rw_liveWith 36 = .ok (.getfield 20, 3) := by decide +kernel
theorem d_Rw_liveWith_39 : decode b_Rw_liveWith 39 = .ok (.iload_n 2, 1) := by decide +kernel
theorem d_Rw_liveWith_40 : decode b_Rw_liveWith 40 = .ok (.aaload, 1) := by decide +kernel
theorem d_Rw_liveWith_41 : decode b_Rw_liveWith 41 = .ok (.areturn, 1) := by decide +kernel
theorem d_Rw_liveWith_42 : decode b_Rw_liveWith 42 = .ok (.iinc 2 1, 3) := by decide +kernel
theorem d_Rw_liveWith_45 : decode b_Rw_liveWith 45 = .ok (.goto (-43), 3) := by decide +kernel
theorem d_Rw_liveWith_48 : decode b_Rw_liveWith 48 = .ok (.aconst_null, 1) := by decide +kernel
theorem d_Rw_liveWith_49 : decode b_Rw_liveWith 49 = .ok (.areturn, 1) := by decide +kernel
theorem d_Rw_factOf_0 : decode b_Rw_factOf 0 = .ok (.iconst 0, 1) := by decide +kernel
theorem d_Rw_factOf_1 : decode b_Rw_factOf 1 = .ok (.istore_n 3, 1) := by decide +kernel
theorem d_Rw_factOf_2 : decode b_Rw_factOf 2 = .ok (.iconst 0, 1) := by decide +kernel
theorem d_Rw_factOf_3 : decode b_Rw_factOf 3 = .ok (.istore 4, 2) := by decide +kernel
theorem d_Rw_factOf_5 : decode b_Rw_factOf 5 = .ok (.iload 4, 2) := by decide +kernel
theorem d_Rw_factOf_7 : decode b_Rw_factOf 7 = .ok (.aload_n 0, 1) := by decide +kernel
theorem d_Rw_factOf_8 : decode b_Rw_factOf 8 = .ok (.getfield 9, 3) := by decide +kernel
theorem d_Rw_factOf_11 : decode b_Rw_factOf 11 = .ok (.if_icmp .ge 49, 3) := by decide +kernel
theorem d_Rw_factOf_14 : decode b_Rw_factOf 14 = .ok (.iload_n 3, 1) := by decide +kernel
theorem d_Rw_factOf_15 : decode b_Rw_factOf 15 = .ok (.aload_n 0, 1) := by decide +kernel
theorem d_Rw_factOf_16 : decode b_Rw_factOf 16 = .ok (.getfield 20, 3) := by decide +kernel
theorem d_Rw_factOf_19 : decode b_Rw_factOf 19 = .ok (.iload 4, 2) := by decide +kernel
theorem d_Rw_factOf_21 : decode b_Rw_factOf 21 = .ok (.aaload, 1) := by decide +kernel
theorem d_Rw_factOf_22 : decode b_Rw_factOf 22 = .ok (.getfield 24, 3) := by decide +kernel
theorem d_Rw_factOf_25 : decode b_Rw_factOf 25 = .ok (.arraylength, 1) := by decide +kernel
theorem d_Rw_factOf_26 : decode b_Rw_factOf 26 = .ok (.iadd, 1) := by decide +kernel
theorem d_Rw_factOf_27 : decode b_Rw_factOf 27 = .ok (.istore 5, 2) := by decide +kernel
theorem d_Rw_factOf_29 : decode b_Rw_factOf 29 = .ok (.iload_n 1, 1) := by decide +kernel
theorem d_Rw_factOf_30 : decode b_Rw_factOf 30 = .ok (.iload 5, 2) := by decide +kernel
theorem d_Rw_factOf_32 : decode b_Rw_factOf 32 = .ok (.if_icmp .ge 19, 3) := by decide +kernel
theorem d_Rw_factOf_35 : decode b_Rw_factOf 35 = .ok (.aload_n 0, 1) := by decide +kernel
theorem d_Rw_factOf_36 : decode b_Rw_factOf 36 = .ok (.getfield 20, 3) := by decide +kernel
theorem d_Rw_factOf_39 : decode b_Rw_factOf 39 = .ok (.iload 4, 2) := by decide +kernel
theorem d_Rw_factOf_41 : decode b_Rw_factOf 41 = .ok (.aaload, 1) := by decide +kernel
theorem d_Rw_factOf_42 : decode b_Rw_factOf 42 = .ok (.iload_n 1, 1) := by decide +kernel
theorem d_Rw_factOf_43 : decode b_Rw_factOf 43 = .ok (.iload_n 3, 1) := by decide +kernel
theorem d_Rw_factOf_44 : decode b_Rw_factOf 44 = .ok (.isub, 1) := by decide +kernel
theorem d_Rw_factOf_45 : decode b_Rw_factOf 45 = .ok (.iload_n 3, 1) := by decide +kernel
theorem d_Rw_factOf_46 : decode b_Rw_factOf 46 = .ok (.iload_n 2, 1) := by decide +kernel
theorem d_Rw_factOf_47 : decode b_Rw_factOf 47 = .ok (.invokevirtual 43, 3) := by decide +kernel
theorem d_Rw_factOf_50 : decode b_Rw_factOf 50 = .ok (.ireturn, 1) := by decide +kernel
theorem d_Rw_factOf_51 : decode b_Rw_factOf 51 = .ok (.iload 5, 2) := by decide +kernel
theorem d_Rw_factOf_53 : decode b_Rw_factOf 53 = .ok (.istore_n 3, 1) := by decide +kernel
theorem d_Rw_factOf_54 : decode b_Rw_factOf 54 = .ok (.iinc 4 1, 3) := by decide +kernel
theorem d_Rw_factOf_57 : decode b_Rw_factOf 57 = .ok (.goto (-52), 3) := by decide +kernel
theorem d_Rw_factOf_60 : decode b_Rw_factOf 60 = .ok (.bipush (-2), 2) := by decide +kernel
theorem d_Rw_factOf_62 : decode b_Rw_factOf 62 = .ok (.ireturn, 1) := by decide +kernel
theorem d_Dr_init_0 : decode b_Dr_init 0 = .ok (.aload_n 0, 1) := by decide +kernel
theorem d_Dr_init_1 : decode b_Dr_init 1 = .ok (.invokespecial 3, 3) := by decide +kernel
theorem d_Dr_init_4 : decode b_Dr_init 4 = .ok (.aload_n 0, 1) := by decide +kernel
theorem d_Dr_init_5 : decode b_Dr_init 5 = .ok (.bipush 10, 2) := by decide +kernel
theorem d_Dr_init_7 : decode b_Dr_init 7 = .ok (.anewarray 9, 3) := by decide +kernel
theorem d_Dr_init_10 : decode b_Dr_init 10 = .ok (.putfield 11, 3) := by decide +kernel
theorem d_Dr_init_13 : decode b_Dr_init 13 = .ok (.aload_n 0, 1) := by decide +kernel
theorem d_Dr_init_14 : decode b_Dr_init 14 = .ok (.iconst 0, 1) := by decide +kernel
theorem d_Dr_init_15 : decode b_Dr_init 15 = .ok (.putfield 17, 3) := by decide +kernel
theorem d_Dr_init_18 : decode b_Dr_init 18 = .ok (.aload_n 0, 1) := by decide +kernel
theorem d_Dr_init_19 : decode b_Dr_init 19 = .ok (.iconst 0, 1) := by decide +kernel
theorem d_Dr_init_20 : decode b_Dr_init 20 = .ok (.putfield 21, 3) := by decide +kernel
theorem d_Dr_init_23 : decode b_Dr_init 23 = .ok (.aload_n 0, 1) := by decide +kernel
theorem d_Dr_init_24 : decode b_Dr_init 24 = .ok (.aconst_null, 1) := by decide +kernel
theorem d_Dr_init_25 : decode b_Dr_init 25 = .ok (.putfield 24, 3) := by decide +kernel
theorem d_Dr_init_28 : decode b_Dr_init 28 = .ok (.return_, 1) := by decide +kernel
theorem d_Dr_isComplete_0 : decode b_Dr_isComplete 0 = .ok (.aload_n 0, 1) := by decide +kernel
theorem d_Dr_isComplete_1 : decode b_Dr_isComplete 1 = .ok (.getfield 21, 3) := by decide +kernel
theorem d_Dr_isComplete_4 : decode b_Dr_isComplete 4 = .ok (.ifCond .le 14, 3) := by decide +kernel
theorem d_Dr_isComplete_7 : decode b_Dr_isComplete 7 = .ok (.aload_n 0, 1) := by decide +kernel
theorem d_Dr_isComplete_8 : decode b_Dr_isComplete 8 = .ok (.getfield 24, 3) := by decide +kernel
theorem d_Dr_isComplete_11 : decode b_Dr_isComplete 11 = .ok (.ifnonnull 7, 3) := by decide +kernel
theorem d_Dr_isComplete_14 : decode b_Dr_isComplete 14 = .ok (.iconst 1, 1) := by decide +kernel
theorem d_Dr_isComplete_15 : decode b_Dr_isComplete 15 = .ok (.goto 4, 3) := by decide +kernel
theorem d_Dr_isComplete_18 : decode b_Dr_isComplete 18 = .ok (.iconst 0, 1) := by decide +kernel
theorem d_Dr_isComplete_19 : decode b_Dr_isComplete 19 = .ok (.ireturn, 1) := by decide +kernel
theorem d_Dr_takesPath_0 : decode b_Dr_takesPath 0 = .ok (.aload_n 0, 1) := by decide +kernel
theorem d_Dr_takesPath_1 : decode b_Dr_takesPath 1 = .ok (.getfield 24, 3) := by decide +kernel
theorem d_Dr_takesPath_4 : decode b_Dr_takesPath 4 = .ok (.ifnonnull 20, 3) := by decide +kernel
theorem d_Dr_takesPath_7 : decode b_Dr_takesPath 7 = .ok (.aload_n 0, 1) := by decide +kernel
theorem d_Dr_takesPath_8 : decode b_Dr_takesPath 8 = .ok (.getfield 21, 3) := by decide +kernel
theorem d_Dr_takesPath_11 : decode b_Dr_takesPath 11 = .ok (.ifCond .ne 11, 3) := by decide +kernel
theorem d_Dr_takesPath_14 : decode b_Dr_takesPath 14 = .ok (.iload_n 1, 1) := by decide +kernel
theorem d_Dr_takesPath_15 : decode b_Dr_takesPath 15 = .ok (.ifCond .ne 7, 3) := by decide +kernel
theorem d_Dr_takesPath_18 : decode b_Dr_takesPath 18 = .ok (.iconst 1, 1) := by decide +kernel
theorem d_Dr_takesPath_19 : decode b_Dr_takesPath 19 = .ok (.goto 4, 3) := by decide +kernel
theorem d_Dr_takesPath_22 : decode b_Dr_takesPath 22 = .ok (.iconst 0, 1) := by decide +kernel
theorem d_Dr_takesPath_23 : decode b_Dr_takesPath 23 = .ok (.ireturn, 1) := by decide +kernel
theorem d_Dr_takesPath_24 : decode b_Dr_takesPath 24 = .ok (.getstatic 28, 3) := by decide +kernel
theorem d_Dr_takesPath_27 : decode b_Dr_takesPath 27 = .ok (.iload_n 1, 1) := by decide +kernel
theorem d_Dr_takesPath_28 : decode b_Dr_takesPath 28 = .ok (.iaload, 1) := by decide +kernel
theorem d_Dr_takesPath_29 : decode b_Dr_takesPath 29 = .ok (.aload_n 0, 1) := by decide +kernel
theorem d_Dr_takesPath_30 : decode b_Dr_takesPath 30 = .ok (.getfield 24, 3) := by decide +kernel
theorem d_Dr_takesPath_33 : decode b_Dr_takesPath 33 = .ok (.getfield 32, 3) := by decide +kernel
theorem d_Dr_takesPath_36 : decode b_Dr_takesPath 36 = .ok (.if_icmp .ne 7, 3) := by decide +kernel
theorem d_Dr_takesPath_39 : decode b_Dr_takesPath 39 = .ok (.iconst 1, 1) := by decide +kernel
theorem d_Dr_takesPath_40 : decode b_Dr_takesPath 40 = .ok (.goto 4, 3) := by decide +kernel
theorem d_Dr_takesPath_43 : decode b_Dr_takesPath 43 = .ok (.iconst 0, 1) := by decide +kernel
theorem d_Dr_takesPath_44 : decode b_Dr_takesPath 44 = .ok (.ireturn, 1) := by decide +kernel
theorem d_Dr_begin_0 : decode b_Dr_begin 0 = .ok (.aload_n 0, 1) := by decide +kernel
theorem d_Dr_begin_1 : decode b_Dr_begin 1 = .ok (.new 9, 3) := by decide +kernel
theorem d_Dr_begin_4 : decode b_Dr_begin 4 = .ok (.dup, 1) := by decide +kernel
theorem d_Dr_begin_5 : decode b_Dr_begin 5 = .ok (.iload_n 1, 1) := by decide +kernel
theorem d_Dr_begin_6 : decode b_Dr_begin 6 = .ok (.aload_n 0, 1) := by decide +kernel
theorem d_Dr_begin_7 : decode b_Dr_begin 7 = .ok (.getfield 24, 3) := by decide +kernel
theorem d_Dr_begin_10 : decode b_Dr_begin 10 = .ok (.aload_n 0, 1) := by decide +kernel
theorem d_Dr_begin_11 : decode b_Dr_begin 11 = .ok (.getfield 17, 3) := by decide +kernel
theorem d_Dr_begin_14 : decode b_Dr_begin 14 = .ok (.invokespecial 35, 3) := by decide +kernel
theorem d_Dr_begin_17 : decode b_Dr_begin 17 = .ok (.putfield 24, 3) := by decide +kernel
theorem d_Dr_begin_20 : decode b_Dr_begin 20 = .ok (.aload_n 0, 1) := by decide +kernel
theorem d_Dr_begin_21 : decode b_Dr_begin 21 = .ok (.dup, 1) := by decide +kernel
theorem d_Dr_begin_22 : decode b_Dr_begin 22 = .ok (.getfield 21, 3) := by decide +kernel
theorem d_Dr_begin_25 : decode b_Dr_begin 25 = .ok (.iconst 1, 1) := by decide +kernel
theorem d_Dr_begin_26 : decode b_Dr_begin 26 = .ok (.iadd, 1) := by decide +kernel
theorem d_Dr_begin_27 : decode b_Dr_begin 27 = .ok (.putfield 21, 3) := by decide +kernel
theorem d_Dr_begin_30 : decode b_Dr_begin 30 = .ok (.return_, 1) := by decide +kernel
theorem d_Dr_end_0 : decode b_Dr_end 0 = .ok (.aload_n 0, 1) := by decide +kernel
theorem d_Dr_end_1 : decode b_Dr_end 1 = .ok (.getfield 24, 3) := by decide +kernel
theorem d_Dr_end_4 : decode b_Dr_end 4 = .ok (.aload_n 0, 1) := by decide +kernel
theorem d_Dr_end_5 : decode b_Dr_end 5 = .ok (.getfield 17, 3) := by decide +kernel
theorem d_Dr_end_8 : decode b_Dr_end 8 = .ok (.putfield 38, 3) := by decide +kernel
theorem d_Dr_end_11 : decode b_Dr_end 11 = .ok (.aload_n 0, 1) := by decide +kernel
theorem d_Dr_end_12 : decode b_Dr_end 12 = .ok (.getfield 11, 3) := by decide +kernel
theorem d_Dr_end_15 : decode b_Dr_end 15 = .ok (.aload_n 0, 1) := by decide +kernel
theorem d_Dr_end_16 : decode b_Dr_end 16 = .ok (.getfield 17, 3) := by decide +kernel
theorem d_Dr_end_19 : decode b_Dr_end 19 = .ok (.aload_n 0, 1) := by decide +kernel
theorem d_Dr_end_20 : decode b_Dr_end 20 = .ok (.getfield 24, 3) := by decide +kernel
theorem d_Dr_end_23 : decode b_Dr_end 23 = .ok (.aastore, 1) := by decide +kernel
theorem d_Dr_end_24 : decode b_Dr_end 24 = .ok (.aload_n 0, 1) := by decide +kernel
theorem d_Dr_end_25 : decode b_Dr_end 25 = .ok (.dup, 1) := by decide +kernel
theorem d_Dr_end_26 : decode b_Dr_end 26 = .ok (.getfield 17, 3) := by decide +kernel
theorem d_Dr_end_29 : decode b_Dr_end 29 = .ok (.iconst 1, 1) := by decide +kernel
theorem d_Dr_end_30 : decode b_Dr_end 30 = .ok (.iadd, 1) := by decide +kernel
theorem d_Dr_end_31 : decode b_Dr_end 31 = .ok (.putfield 17, 3) := by decide +kernel
theorem d_Dr_end_34 : decode b_Dr_end 34 = .ok (.aload_n 0, 1) := by decide +kernel
theorem d_Dr_end_35 : decode b_Dr_end 35 = .ok (.aload_n 0, 1) := by decide +kernel
theorem d_Dr_end_36 : decode b_Dr_end 36 = .ok (.getfield 24, 3) := by decide +kernel
theorem d_Dr_end_39 : decode b_Dr_end 39 = .ok (.getfield 41, 3) := by decide +kernel
theorem d_Dr_end_42 : decode b_Dr_end 42 = .ok (.putfield 24, 3) := by decide +kernel
theorem d_Dr_end_45 : decode b_Dr_end 45 = .ok (.return_, 1) := by decide +kernel
theorem d_Dr_drop_0 : decode b_Dr_drop 0 = .ok (.aload_n 0, 1) := by decide +kernel
theorem d_Dr_drop_1 : decode b_Dr_drop 1 = .ok (.iconst 0, 1) := by decide +kernel
theorem d_Dr_drop_2 : decode b_Dr_drop 2 = .ok (.putfield 17, 3) := by decide +kernel
theorem d_Dr_drop_5 : decode b_Dr_drop 5 = .ok (.aload_n 0, 1) := by decide +kernel
theorem d_Dr_drop_6 : decode b_Dr_drop 6 = .ok (.iconst 0, 1) := by decide +kernel
theorem d_Dr_drop_7 : decode b_Dr_drop 7 = .ok (.putfield 21, 3) := by decide +kernel
theorem d_Dr_drop_10 : decode b_Dr_drop 10 = .ok (.aload_n 0, 1) := by decide +kernel
theorem d_Dr_drop_11 : decode b_Dr_drop 11 = .ok (.aconst_null, 1) := by decide +kernel
theorem d_Dr_drop_12 : decode b_Dr_drop 12 = .ok (.putfield 24, 3) := by decide +kernel
theorem d_Dr_drop_15 : decode b_Dr_drop 15 = .ok (.return_, 1) := by decide +kernel
theorem d_Hi_init_0 : decode b_Hi_init 0 = .ok (.aload_n 0, 1) := by decide +kernel
theorem d_Hi_init_1 : decode b_Hi_init 1 = .ok (.invokespecial 3, 3) := by decide +kernel
theorem d_Hi_init_4 : decode b_Hi_init 4 = .ok (.aload_n 0, 1) := by decide +kernel
theorem d_Hi_init_5 : decode b_Hi_init 5 = .ok (.bipush 20, 2) := by decide +kernel
theorem d_Hi_init_7 : decode b_Hi_init 7 = .ok (.iconst 5, 1) := by decide +kernel
theorem d_Hi_init_8 : decode b_Hi_init 8 = .ok (.multianewarray 9 2, 4) := by decide +kernel
theorem d_Hi_init_12 : decode b_Hi_init 12 = .ok (.putfield 11, 3) := by decide +kernel
theorem d_Hi_init_15 : decode b_Hi_init 15 = .ok (.aload_n 0, 1) := by decide +kernel
theorem d_Hi_init_16 : decode b_Hi_init 16 = .ok (.iconst 0, 1) := by decide +kernel
theorem d_Hi_init_17 : decode b_Hi_init 17 = .ok (.putfield 16, 3) := by decide +kernel
theorem d_Hi_init_20 : decode b_Hi_init 20 = .ok (.return_, 1) := by decide +kernel
theorem d_Hi_drop_0 : decode b_Hi_drop 0 = .ok (.aload_n 0, 1) := by decide +kernel
theorem d_Hi_drop_1 : decode b_Hi_drop 1 = .ok (.iconst 0, 1) := by decide +kernel
theorem d_Hi_drop_2 : decode b_Hi_drop 2 = .ok (.putfield 16, 3) := by decide +kernel
theorem d_Hi_drop_5 : decode b_Hi_drop 5 = .ok (.return_, 1) := by decide +kernel
theorem d_Hi_insert_0 : decode b_Hi_insert 0 = .ok (.aload_n 0, 1) := by decide +kernel
theorem d_Hi_insert_1 : decode b_Hi_insert 1 = .ok (.getfield 16, 3) := by decide +kernel
theorem d_Hi_insert_4 : decode b_Hi_insert 4 = .ok (.aload_n 0, 1) := by decide +kernel
theorem d_Hi_insert_5 : decode b_Hi_insert 5 = .ok (.getfield 11, 3) := by decide +kernel
theorem d_Hi_insert_8 : decode b_Hi_insert 8 = .ok (.arraylength, 1) := by decide +kernel
theorem d_Hi_insert_9 : decode b_Hi_insert 9 = .ok (.if_icmp .lt 4, 3) := by decide +kernel
theorem d_Hi_insert_12 : decode b_Hi_insert 12 = .ok (.return_, 1) := by decide +kernel
theorem d_Hi_insert_13 : decode b_Hi_insert 13 = .ok (.aload_n 0, 1) := by decide +kernel
theorem d_Hi_insert_14 : decode b_Hi_insert 14 = .ok (.getfield 11, 3) := by decide +kernel
theorem d_Hi_insert_17 : decode b_Hi_insert 17 = .ok (.aload_n 0, 1) := by decide +kernel
theorem d_Hi_insert_18 : decode b_Hi_insert 18 = .ok (.getfield 16, 3) := by decide +kernel
theorem d_Hi_insert_21 : decode b_Hi_insert 21 = .ok (.aaload, 1) := by decide +kernel
theorem d_Hi_insert_22 : decode b_Hi_insert 22 = .ok (.astore 4, 2) := by decide +kernel
theorem d_Hi_insert_24 : decode b_Hi_insert 24 = .ok (.aload_n 0, 1) := by decide +kernel
theorem d_Hi_insert_25 : decode b_Hi_insert 25 = .ok (.getfield 16, 3) := by decide +kernel
theorem d_Hi_insert_28 : decode b_Hi_insert 28 = .ok (.istore 5, 2) := by decide +kernel
theorem d_Hi_insert_30 : decode b_Hi_insert 30 = .ok (.iload 5, 2) := by decide +kernel
theorem d_Hi_insert_32 : decode b_Hi_insert 32 = .ok (.ifCond .le 40, 3) := by decide +kernel
theorem d_Hi_insert_35 : decode b_Hi_insert 35 = .ok (.aload_n 0, 1) := by decide +kernel
theorem d_Hi_insert_36 : decode b_Hi_insert 36 = .ok (.getfield 11, 3) := by decide +kernel
theorem d_Hi_insert_39 : decode b_Hi_insert 39 = .ok (.iload 5, 2) := by decide +kernel
theorem d_Hi_insert_41 : decode b_Hi_insert 41 = .ok (.iconst 1, 1) := by decide +kernel
theorem d_Hi_insert_42 : decode b_Hi_insert 42 = .ok (.isub, 1) := by decide +kernel
theorem d_Hi_insert_43 : decode b_Hi_insert 43 = .ok (.aaload, 1) := by decide +kernel
theorem d_Hi_insert_44 : decode b_Hi_insert 44 = .ok (.iconst 1, 1) := by decide +kernel
theorem d_Hi_insert_45 : decode b_Hi_insert 45 = .ok (.iaload, 1) := by decide +kernel
theorem d_Hi_insert_46 : decode b_Hi_insert 46 = .ok (.iload_n 3, 1) := by decide +kernel
theorem d_Hi_insert_47 : decode b_Hi_insert 47 = .ok (.if_icmp .ge 25, 3) := by decide +kernel
theorem d_Hi_insert_50 : decode b_Hi_insert 50 = .ok (.aload_n 0, 1) := by decide +kernel
theorem d_Hi_insert_51 : decode b_Hi_insert 51 = .ok (.getfield 11, 3) := by decide +kernel
theorem d_Hi_insert_54 : decode b_Hi_insert 54 = .ok (.iload 5, 2) := by decide +kernel
theorem d_Hi_insert_56 : decode b_Hi_insert 56 = .ok (.aload_n 0, 1) := by decide +kernel
theorem d_Hi_insert_57 : decode b_Hi_insert 57 = .ok (.getfield 11, 3) := by decide +kernel
theorem d_Hi_insert_60 : decode b_Hi_insert 60 = .ok (.iload 5, 2) := by decide +kernel
theorem d_Hi_insert_62 : decode b_Hi_insert 62 = .ok (.iconst 1, 1) := by decide +kernel
theorem d_Hi_insert_63 : decode b_Hi_insert 63 = .ok (.isub, 1) := by decide +kernel
theorem d_Hi_insert_64 : decode b_Hi_insert 64 = .ok (.aaload, 1) := by decide +kernel
theorem d_Hi_insert_65 : decode b_Hi_insert 65 = .ok (.aastore, 1) := by decide +kernel
theorem d_Hi_insert_66 : decode b_Hi_insert 66 = .ok (.iinc 5 (-1), 3) := by decide +kernel
theorem d_Hi_insert_69 : decode b_Hi_insert 69 = .ok (.goto (-39), 3) := by decide +kernel
theorem d_Hi_insert_72 : decode b_Hi_insert 72 = .ok (.aload_n 0, 1) := by decide +kernel
theorem d_Hi_insert_73 : decode b_Hi_insert 73 = .ok (.getfield 11, 3) := by decide +kernel
theorem d_Hi_insert_76 : decode b_Hi_insert 76 = .ok (.iload 5, 2) := by decide +kernel
theorem d_Hi_insert_78 : decode b_Hi_insert 78 = .ok (.aload 4, 2) := by decide +kernel
theorem d_Hi_insert_80 : decode b_Hi_insert 80 = .ok (.aastore, 1) := by decide +kernel
theorem d_Hi_insert_81 : decode b_Hi_insert 81 = .ok (.aload 4, 2) := by decide +kernel
theorem d_Hi_insert_83 : decode b_Hi_insert 83 = .ok (.iconst 0, 1) := by decide +kernel
theorem d_Hi_insert_84 : decode b_Hi_insert 84 = .ok (.aload_n 1, 1) := by decide +kernel
theorem d_Hi_insert_85 : decode b_Hi_insert 85 = .ok (.getfield 20, 3) := by decide +kernel
theorem d_Hi_insert_88 : decode b_Hi_insert 88 = .ok (.iload_n 2, 1) := by decide +kernel
theorem d_Hi_insert_89 : decode b_Hi_insert 89 = .ok (.aaload, 1) := by decide +kernel
theorem d_Hi_insert_90 : decode b_Hi_insert 90 = .ok (.getfield 26, 3) := by decide +kernel
theorem d_Hi_insert_93 : decode b_Hi_insert 93 = .ok (.iastore, 1) := by decide +kernel
theorem d_Hi_insert_94 : decode b_Hi_insert 94 = .ok (.aload 4, 2) := by decide +kernel
theorem d_Hi_insert_96 : decode b_Hi_insert 96 = .ok (.iconst 1, 1) := by decide +kernel
theorem d_Hi_insert_97 : decode b_Hi_insert 97 = .ok (.iload_n 3, 1) := by decide +kernel
theorem d_Hi_insert_98 : decode b_Hi_insert 98 = .ok (.iastore, 1) := by decide +kernel
theorem d_Hi_insert_99 : decode b_Hi_insert 99 = .ok (.aload 4, 2) := by decide +kernel
theorem d_Hi_insert_101 : decode b_Hi_insert 101 = .ok (.iconst 2, 1) := by decide +kernel
theorem d_Hi_insert_102 : decode b_Hi_insert 102 = .ok (.aload_n 1, 1) := by decide +kernel
theorem d_Hi_insert_103 : decode b_Hi_insert 103 = .ok (.getfield 31, 3) := by decide +kernel
theorem d_Hi_insert_106 : decode b_Hi_insert 106 = .ok (.iload_n 2, 1) := by decide +kernel
theorem d_Hi_insert_107 : decode b_Hi_insert 107 = .ok (.iaload, 1) := by decide +kernel
theorem d_Hi_insert_108 : decode b_Hi_insert 108 = .ok (.iastore, 1) := by decide +kernel
theorem d_Hi_insert_109 : decode b_Hi_insert 109 = .ok (.aload 4, 2) := by decide +kernel
theorem d_Hi_insert_111 : decode b_Hi_insert 111 = .ok (.iconst 3, 1) := by decide +kernel
theorem d_Hi_insert_112 : decode b_Hi_insert 112 = .ok (.aload_n 1, 1) := by decide +kernel
theorem d_Hi_insert_113 : decode b_Hi_insert 113 = .ok (.getfield 35, 3) := by decide +kernel
theorem d_Hi_insert_116 : decode b_Hi_insert 116 = .ok (.iload_n 2, 1) := by decide +kernel
theorem d_Hi_insert_117 : decode b_Hi_insert 117 = .ok (.iaload, 1) := by decide +kernel
theorem d_Hi_insert_118 : decode b_Hi_insert 118 = .ok (.iastore, 1) := by decide +kernel
theorem d_Hi_insert_119 : decode b_Hi_insert 119 = .ok (.aload 4, 2) := by decide +kernel
theorem d_Hi_insert_121 : decode b_Hi_insert 121 = .ok (.iconst 4, 1) := by decide +kernel
theorem d_Hi_insert_122 : decode b_Hi_insert 122 = .ok (.aload_n 1, 1) := by decide +kernel
theorem d_Hi_insert_123 : decode b_Hi_insert 123 = .ok (.getfield 20, 3) := by decide +kernel
theorem d_Hi_insert_126 : decode b_Hi_insert 126 = .ok (.iload_n 2, 1) := by decide +kernel
theorem d_Hi_insert_127 : decode b_Hi_insert 127 = .ok (.aaload, 1) := by decide +kernel
theorem d_Hi_insert_128 : decode b_Hi_insert 128 = .ok (.getfield 38, 3) := by decide +kernel
theorem d_Hi_insert_131 : decode b_Hi_insert 131 = .ok (.arraylength, 1) := by decide +kernel
theorem d_Hi_insert_132 : decode b_Hi_insert 132 = .ok (.iastore, 1) := by decide +kernel
theorem d_Hi_insert_133 : decode b_Hi_insert 133 = .ok (.aload_n 0, 1) := by decide +kernel
theorem d_Hi_insert_134 : decode b_Hi_insert 134 = .ok (.dup, 1) := by decide +kernel
theorem d_Hi_insert_135 : decode b_Hi_insert 135 = .ok (.getfield 16, 3) := by decide +kernel
theorem d_Hi_insert_138 : decode b_Hi_insert 138 = .ok (.iconst 1, 1) := by decide +kernel
theorem d_Hi_insert_139 : decode b_Hi_insert 139 = .ok (.iadd, 1) := by decide +kernel
theorem d_Hi_insert_140 : decode b_Hi_insert 140 = .ok (.putfield 16, 3) := by decide +kernel
theorem d_Hi_insert_143 : decode b_Hi_insert 143 = .ok (.return_, 1) := by decide +kernel
theorem d_Mp_init_0 : decode b_Mp_init 0 = .ok (.aload_n 0, 1) := by decide +kernel
theorem d_Mp_init_1 : decode b_Mp_init 1 = .ok (.invokespecial 3, 3) := by decide +kernel
theorem d_Mp_init_4 : decode b_Mp_init 4 = .ok (.aload_n 0, 1) := by decide +kernel
theorem d_Mp_init_5 : decode b_Mp_init 5 = .ok (.iconst 4, 1) := by decide +kernel
theorem d_Mp_init_6 : decode b_Mp_init 6 = .ok (.iconst 4, 1) := by decide +kernel
theorem d_Mp_init_7 : decode b_Mp_init 7 = .ok (.multianewarray 9 2, 4) := by decide +kernel
theorem d_Mp_init_11 : decode b_Mp_init 11 = .ok (.putfield 11, 3) := by decide +kernel
theorem d_Mp_init_14 : decode b_Mp_init 14 = .ok (.aload_n 0, 1) := by decide +kernel
theorem d_Mp_init_15 : decode b_Mp_init 15 = .ok (.iconst 0, 1) := by decide +kernel
theorem d_Mp_init_16 : decode b_Mp_init 16 = .ok (.putfield 16, 3) := by decide +kernel
theorem d_Mp_init_19 : decode b_Mp_init 19 = .ok (.aload_n 0, 1) := by decide +kernel
theorem d_Mp_init_20 : decode b_Mp_init 20 = .ok (.iconst 4, 1) := by decide +kernel
theorem d_Mp_init_21 : decode b_Mp_init 21 = .ok (.iconst 4, 1) := by decide +kernel
theorem d_Mp_init_22 : decode b_Mp_init 22 = .ok (.multianewarray 9 2, 4) := by decide +kernel
theorem d_Mp_init_26 : decode b_Mp_init 26 = .ok (.putfield 20, 3) := by decide +kernel
theorem d_Mp_init_29 : decode b_Mp_init 29 = .ok (.return_, 1) := by decide +kernel
theorem d_Mp_fits_0 : decode b_Mp_fits 0 = .ok (.iconst 0, 1) := by decide +kernel
theorem d_Mp_fits_1 : decode b_Mp_fits 1 = .ok (.istore_n 2, 1) := by decide +kernel
theorem d_Mp_fits_2 : decode b_Mp_fits 2 = .ok (.iload_n 2, 1) := by decide +kernel
theorem d_Mp_fits_3 : decode b_Mp_fits 3 = .ok (.iconst 4, 1) := by decide +kernel
theorem d_Mp_fits_4 : decode b_Mp_fits 4 = .ok (.if_icmp .ge 27, 3) := by decide +kernel
theorem d_Mp_fits_7 : decode b_Mp_fits 7 = .ok (.aload_n 0, 1) := by decide +kernel
theorem d_Mp_fits_8 : decode b_Mp_fits 8 = .ok (.getfield 11, 3) := by decide +kernel
theorem d_Mp_fits_11 : decode b_Mp_fits 11 = .ok (.iload_n 2, 1) := by decide +kernel
theorem d_Mp_fits_12 : decode b_Mp_fits 12 = .ok (.aaload, 1) := by decide +kernel
theorem d_Mp_fits_13 : decode b_Mp_fits 13 = .ok (.iconst 0, 1) := by decide +kernel
theorem d_Mp_fits_14 : decode b_Mp_fits 14 = .ok (.aload_n 0, 1) := by decide +kernel
theorem d_Mp_fits_15 : decode b_Mp_fits 15 = .ok (.getfield 20, 3) := by decide +kernel
theorem d_Mp_fits_18 : decode b_Mp_fits 18 = .ok (.iload_n 2, 1) := by decide +kernel
theorem d_Mp_fits_19 : decode b_Mp_fits 19 = .ok (.aaload, 1) := by decide +kernel
theorem d_Mp_fits_20 : decode b_Mp_fits 20 = .ok (.iconst 0, 1) := by decide +kernel
theorem d_Mp_fits_21 : decode b_Mp_fits 21 = .ok (.iconst 4, 1) := by decide +kernel
theorem d_Mp_fits_22 : decode b_Mp_fits 22 = .ok (.invokestatic 23, 3) := by decide +kernel
theorem d_Mp_fits_25 : decode b_Mp_fits 25 = .ok (.iinc 2 1, 3) := by decide +kernel
theorem d_Mp_fits_28 : decode b_Mp_fits 28 = .ok (.goto (-26), 3) := by decide +kernel
theorem d_Mp_fits_31 : decode b_Mp_fits 31 = .ok (.iconst 0, 1) := by decide +kernel
theorem d_Mp_fits_32 : decode b_Mp_fits 32 = .ok (.istore_n 2, 1) := by decide +kernel
theorem d_Mp_fits_33 : decode b_Mp_fits 33 = .ok (.iload_n 2, 1) := by decide +kernel
theorem d_Mp_fits_34 : decode b_Mp_fits 34 = .ok (.aload_n 1, 1) := by decide +kernel
theorem d_Mp_fits_35 : decode b_Mp_fits 35 = .ok (.getfield 29, 3) := by decide +kernel
theorem d_Mp_fits_38 : decode b_Mp_fits 38 = .ok (.if_icmp .ge 24, 3) := by decide +kernel
theorem d_Mp_fits_41 : decode b_Mp_fits 41 = .ok (.aload_n 0, 1) := by decide +kernel
theorem d_Mp_fits_42 : decode b_Mp_fits 42 = .ok (.aload_n 1, 1) := by decide +kernel
theorem d_Mp_fits_43 : decode b_Mp_fits 43 = .ok (.getfield 34, 3) := by decide +kernel
theorem d_Mp_fits_46 : decode b_Mp_fits 46 = .ok (.iload_n 2, 1) := by decide +kernel
theorem d_Mp_fits_47 : decode b_Mp_fits 47 = .ok (.aaload, 1) := by decide +kernel
theorem d_Mp_fits_48 : decode b_Mp_fits 48 = .ok (.invokevirtual 38, 3) := by decide +kernel
theorem d_Mp_fits_51 : decode b_Mp_fits 51 = .ok (.ifCond .ne 5, 3) := by decide +kernel
theorem d_Mp_fits_54 : decode b_Mp_fits 54 = .ok (.iconst 0, 1) := by decide +kernel
theorem d_Mp_fits_55 : decode b_Mp_fits 55 = .ok (.ireturn, 1) := by decide +kernel
theorem d_Mp_fits_56 : decode b_Mp_fits 56 = .ok (.iinc 2 1, 3) := by decide +kernel
theorem d_Mp_fits_59 : decode b_Mp_fits 59 = .ok (.goto (-26), 3) := by decide +kernel
theorem d_Mp_fits_62 : decode b_Mp_fits 62 = .ok (.iconst 1, 1) := by decide +kernel
theorem d_Mp_fits_63 : decode b_Mp_fits 63 = .ok (.ireturn, 1) := by decide +kernel
theorem d_Mp_fitsTrial_0 : decode b_Mp_fitsTrial 0 = .ok (.aload_n 0, 1) := by decide +kernel
theorem d_Mp_fitsTrial_1 : decode b_Mp_fitsTrial 1 = .ok (.getfield 20, 3) := by decide +kernel
theorem d_Mp_fitsTrial_4 : decode b_Mp_fitsTrial 4 = .ok (.aload_n 1, 1) := by decide +kernel
theorem d_Mp_fitsTrial_5 : decode b_Mp_fitsTrial 5 = .ok (.getfield 42, 3) := by decide +kernel
theorem d_Mp_fitsTrial_8 : decode b_Mp_fitsTrial 8 = .ok (.aaload, 1) := by decide +kernel
theorem d_Mp_fitsTrial_9 : decode b_Mp_fitsTrial 9 = .ok (.astore_n 2, 1) := by decide +kernel
theorem d_Mp_fitsTrial_10 : decode b_Mp_fitsTrial 10 = .ok (.iconst 0, 1) := by decide +kernel
theorem d_Mp_fitsTrial_11 : decode b_Mp_fitsTrial 11 = .ok (.istore_n 3, 1) := by decide +kernel
theorem d_Mp_fitsTrial_12 : decode b_Mp_fitsTrial 12 = .ok (.iload_n 3, 1) := by decide +kernel
theorem d_Mp_fitsTrial_13 : decode b_Mp_fitsTrial 13 = .ok (.iconst 4, 1) := by decide +kernel
theorem d_Mp_fitsTrial_14 : decode b_Mp_fitsTrial 14 = .ok (.if_icmp .ge 48, 3) := by decide +kernel
theorem d_Mp_fitsTrial_17 : decode b_Mp_fitsTrial 17 = .ok (.aload_n 1, 1) := by decide +kernel
theorem d_Mp_fitsTrial_18 : decode b_Mp_fitsTrial 18 = .ok (.getfield 47, 3) := by decide +kernel
theorem d_Mp_fitsTrial_21 : decode b_Mp_fitsTrial 21 = .ok (.iload_n 3, 1) := by decide +kernel
theorem d_Mp_fitsTrial_22 : decode b_Mp_fitsTrial 22 = .ok (.iaload, 1) := by decide +kernel
theorem d_Mp_fitsTrial_23 : decode b_Mp_fitsTrial 23 = .ok (.istore 4, 2) := by decide +kernel
theorem d_Mp_fitsTrial_25 : decode b_Mp_fitsTrial 25 = .ok (.iload 4, 2) := by decide +kernel
theorem d_Mp_fitsTrial_27 : decode b_Mp_fitsTrial 27 = .ok (.ifCond .eq 19, 3) := by decide +kernel
theorem d_Mp_fitsTrial_30 : decode b_Mp_fitsTrial 30 = .ok (.aload_n 2, 1) := by decide +kernel
theorem d_Mp_fitsTrial_31 : decode b_Mp_fitsTrial 31 = .ok (.iload_n 3, 1) := by decide +kernel
theorem d_Mp_fitsTrial_32 : decode b_Mp_fitsTrial 32 = .ok (.iaload, 1) := by decide +kernel
theorem d_Mp_fitsTrial_33 : decode b_Mp_fitsTrial 33 = .ok (.ifCond .eq 13, 3) := by decide +kernel
theorem d_Mp_fitsTrial_36 : decode b_Mp_fitsTrial 36 = .ok (.aload_n 2, 1) := by decide +kernel
theorem d_Mp_fitsTrial_37 : decode b_Mp_fitsTrial 37 = .ok (.iload_n 3, 1) := by decide +kernel
theorem d_Mp_fitsTrial_38 : decode b_Mp_fitsTrial 38 = .ok (.iaload, 1) := by decide +kernel
theorem d_Mp_fitsTrial_39 : decode b_Mp_fitsTrial 39 = .ok (.iload 4, 2) := by decide +kernel
theorem d_Mp_fitsTrial_41 : decode b_Mp_fitsTrial 41 = .ok (.if_icmp .eq 5, 3) := by decide +kernel
theorem d_Mp_fitsTrial_44 : decode b_Mp_fitsTrial 44 = .ok (.iconst 0, 1) := by decide +kernel
theorem d_Mp_fitsTrial_45 : decode b_Mp_fitsTrial 45 = .ok (.ireturn, 1) := by decide +kernel
theorem d_Mp_fitsTrial_46 : decode b_Mp_fitsTrial 46 = .ok (.iload 4, 2) := by decide +kernel
theorem d_Mp_fitsTrial_48 : decode b_Mp_fitsTrial 48 = .ok (.ifCond .eq 8, 3) := by decide +kernel
theorem d_Mp_fitsTrial_51 : decode b_Mp_fitsTrial 51 = .ok (.aload_n 2, 1) := by decide +kernel
theorem d_Mp_fitsTrial_52 : decode b_Mp_fitsTrial 52 = .ok (.iload_n 3, 1) := by decide +kernel
theorem d_Mp_fitsTrial_53 : decode b_Mp_fitsTrial 53 = .ok (.iload 4, 2) := by decide +kernel
theorem d_Mp_fitsTrial_55 : decode b_Mp_fitsTrial 55 = .ok (.iastore, 1) := by decide +kernel
theorem d_Mp_fitsTrial_56 : decode b_Mp_fitsTrial 56 = .ok (.iinc 3 1, 3) := by decide +kernel
theorem d_Mp_fitsTrial_59 : decode b_Mp_fitsTrial 59 = .ok (.goto (-47), 3) := by decide +kernel
theorem d_Mp_fitsTrial_62 : decode b_Mp_fitsTrial 62 = .ok (.iconst 1, 1) := by decide +kernel
theorem d_Mp_fitsTrial_63 : decode b_Mp_fitsTrial 63 = .ok (.ireturn, 1) := by decide +kernel
theorem d_Mp_learn_0 : decode b_Mp_learn 0 = .ok (.iconst 0, 1) := by decide +kernel
theorem d_Mp_learn_1 : decode b_Mp_learn 1 = .ok (.istore_n 2, 1) := by decide +kernel
theorem d_Mp_learn_2 : decode b_Mp_learn 2 = .ok (.iload_n 2, 1) := by decide +kernel
theorem d_Mp_learn_3 : decode b_Mp_learn 3 = .ok (.aload_n 1, 1) := by decide +kernel
theorem d_Mp_learn_4 : decode b_Mp_learn 4 = .ok (.getfield 29, 3) := by decide +kernel
theorem d_Mp_learn_7 : decode b_Mp_learn 7 = .ok (.if_icmp .ge 19, 3) := by decide +kernel
theorem d_Mp_learn_10 : decode b_Mp_learn 10 = .ok (.aload_n 0, 1) := by decide +kernel
theorem d_Mp_learn_11 : decode b_Mp_learn 11 = .ok (.aload_n 1, 1) := by decide +kernel
theorem d_Mp_learn_12 : decode b_Mp_learn 12 = .ok (.getfield 34, 3) := by decide +kernel
theorem d_Mp_learn_15 : decode b_Mp_learn 15 = .ok (.iload_n 2, 1) := by decide +kernel
theorem d_Mp_learn_16 : decode b_Mp_learn 16 = .ok (.aaload, 1) := by decide +kernel
theorem d_Mp_learn_17 : decode b_Mp_learn 17 = .ok (.invokevirtual 50, 3) := by decide +kernel
theorem d_Mp_learn_20 : decode b_Mp_learn 20 = .ok (.iinc 2 1, 3) := by decide +kernel
theorem d_Mp_learn_23 : decode b_Mp_learn 23 = .ok (.goto (-21), 3) := by decide +kernel
theorem d_Mp_learn_26 : decode b_Mp_learn 26 = .ok (.return_, 1) := by decide +kernel
theorem d_Mp_learnFrom_0 : decode b_Mp_learnFrom 0 = .ok (.aload_n 0, 1) := by decide +kernel
theorem d_Mp_learnFrom_1 : decode b_Mp_learnFrom 1 = .ok (.getfield 11, 3) := by decide +kernel
theorem d_Mp_learnFrom_4 : decode b_Mp_learnFrom 4 = .ok (.aload_n 1, 1) := by decide +kernel
theorem d_Mp_learnFrom_5 : decode b_Mp_learnFrom 5 = .ok (.getfield 42, 3) := by decide +kernel
theorem d_Mp_learnFrom_8 : decode b_Mp_learnFrom 8 = .ok (.aaload, 1) := by decide +kernel
theorem d_Mp_learnFrom_9 : decode b_Mp_learnFrom 9 = .ok (.astore_n 2, 1) := by decide +kernel
theorem d_Mp_learnFrom_10 : decode b_Mp_learnFrom 10 = .ok (.iconst 0, 1) := by decide +kernel
theorem d_Mp_learnFrom_11 : decode b_Mp_learnFrom 11 = .ok (.istore_n 3, 1) := by decide +kernel
theorem d_Mp_learnFrom_12 : decode b_Mp_learnFrom 12 = .ok (.iload_n 3, 1) := by decide +kernel
theorem d_Mp_learnFrom_13 : decode b_Mp_learnFrom 13 = .ok (.iconst 4, 1) := by decide +kernel
theorem d_Mp_learnFrom_14 : decode b_Mp_learnFrom 14 = .ok (.if_icmp .ge 43, 3) := by decide +kernel
theorem d_Mp_learnFrom_17 : decode b_Mp_learnFrom 17 = .ok (.aload_n 2, 1) := by decide +kernel
theorem d_Mp_learnFrom_18 : decode b_Mp_learnFrom 18 = .ok (.iload_n 3, 1) := by decide +kernel
theorem d_Mp_learnFrom_19 : decode b_Mp_learnFrom 19 = .ok (.iaload, 1) := by decide +kernel
theorem d_Mp_learnFrom_20 : decode b_Mp_learnFrom 20 = .ok (.ifCond .ne 31, 3) := by decide +kernel
theorem d_Mp_learnFrom_23 : decode b_Mp_learnFrom 23 = .ok (.aload_n 1, 1) := by decide +kernel
theorem d_Mp_learnFrom_24 : decode b_Mp_learnFrom 24 = .ok (.getfield 47, 3) := by decide +kernel
theorem d_Mp_learnFrom_27 : decode b_Mp_learnFrom 27 = .ok (.iload_n 3, 1) := by decide +kernel
theorem d_Mp_learnFrom_28 : decode b_Mp_learnFrom 28 = .ok (.iaload, 1) := by decide +kernel
theorem d_Mp_learnFrom_29 : decode b_Mp_learnFrom 29 = .ok (.ifCond .eq 22, 3) := by decide +kernel
theorem d_Mp_learnFrom_32 : decode b_Mp_learnFrom 32 = .ok (.aload_n 2, 1) := by decide +kernel
theorem d_Mp_learnFrom_33 : decode b_Mp_learnFrom 33 = .ok (.iload_n 3, 1) := by decide +kernel
theorem d_Mp_learnFrom_34 : decode b_Mp_learnFrom 34 = .ok (.aload_n 1, 1) := by decide +kernel
theorem d_Mp_learnFrom_35 : decode b_Mp_learnFrom 35 = .ok (.getfield 47, 3) := by decide +kernel
theorem d_Mp_learnFrom_38 : decode b_Mp_learnFrom 38 = .ok (.iload_n 3, 1) := by decide +kernel
theorem d_Mp_learnFrom_39 : decode b_Mp_learnFrom 39 = .ok (.iaload, 1) := by decide +kernel
theorem d_Mp_learnFrom_40 : decode b_Mp_learnFrom 40 = .ok (.iastore, 1) := by decide +kernel
theorem d_Mp_learnFrom_41 : decode b_Mp_learnFrom 41 = .ok (.aload_n 0, 1) := by decide +kernel
theorem d_Mp_learnFrom_42 : decode b_Mp_learnFrom 42 = .ok (.dup, 1) := by decide +kernel
theorem d_Mp_learnFrom_43 : decode b_Mp_learnFrom 43 = .ok (.getfield 16, 3) := by decide +kernel
theorem d_Mp_learnFrom_46 : decode b_Mp_learnFrom 46 = .ok (.iconst 1, 1) := by decide +kernel
theorem d_Mp_learnFrom_47 : decode b_Mp_learnFrom 47 = .ok (.iadd, 1) := by decide +kernel
theorem d_Mp_learnFrom_48 : decode b_Mp_learnFrom 48 = .ok (.putfield 16, 3) := by decide +kernel
theorem d_Mp_learnFrom_51 : decode b_Mp_learnFrom 51 = .ok (.iinc 3 1, 3) := by decide +kernel
theorem d_Mp_learnFrom_54 : decode b_Mp_learnFrom 54 = .ok (.goto (-42), 3) := by decide +kernel
theorem d_Mp_learnFrom_57 : decode b_Mp_learnFrom 57 = .ok (.return_, 1) := by decide +kernel
theorem d_Nd_init_0 : decode b_Nd_init 0 = .ok (.aload_n 0, 1) := by decide +kernel
theorem d_Nd_init_1 : decode b_Nd_init 1 = .ok (.invokespecial 3, 3) := by decide +kernel
theorem d_Nd_init_4 : decode b_Nd_init 4 = .ok (.aload_n 0, 1) := by decide +kernel
theorem d_Nd_init_5 : decode b_Nd_init 5 = .ok (.iconst 0, 1) := by decide +kernel
theorem d_Nd_init_6 : decode b_Nd_init 6 = .ok (.putfield 9, 3) := by decide +kernel
theorem d_Nd_init_9 : decode b_Nd_init 9 = .ok (.aload_n 0, 1) := by decide +kernel
theorem d_Nd_init_10 : decode b_Nd_init 10 = .ok (.iconst 4, 1) := by decide +kernel
theorem d_Nd_init_11 : decode b_Nd_init 11 = .ok (.newarray .int, 2) := by decide +kernel
theorem d_Nd_init_13 : decode b_Nd_init 13 = .ok (.putfield 15, 3) := by decide +kernel
theorem d_Nd_init_16 : decode b_Nd_init 16 = .ok (.aload_n 0, 1) := by decide +kernel
theorem d_Nd_init_17 : decode b_Nd_init 17 = .ok (.iconst 4, 1) := by decide +kernel
theorem d_Nd_init_18 : decode b_Nd_init 18 = .ok (.newarray .int, 2) := by decide +kernel
theorem d_Nd_init_20 : decode b_Nd_init 20 = .ok (.putfield 19, 3) := by decide +kernel
theorem d_Nd_init_23 : decode b_Nd_init 23 = .ok (.aload_n 0, 1) := by decide +kernel
theorem d_Nd_init_24 : decode b_Nd_init 24 = .ok (.bipush 32, 2) := by decide +kernel
theorem d_Nd_init_26 : decode b_Nd_init 26 = .ok (.newarray .int, 2) := by decide +kernel
theorem d_Nd_init_28 : decode b_Nd_init 28 = .ok (.putfield 22, 3) := by decide +kernel
theorem d_Nd_init_31 : decode b_Nd_init 31 = .ok (.aload_n 0, 1) := by decide +kernel
theorem d_Nd_init_32 : decode b_Nd_init 32 = .ok (.iload_n 1, 1) := by decide +kernel
theorem d_Nd_init_33 : decode b_Nd_init 33 = .ok (.putfield 25, 3) := by decide +kernel
theorem d_Nd_init_36 : decode b_Nd_init 36 = .ok (.aload_n 0, 1) := by decide +kernel
theorem d_Nd_init_37 : decode b_Nd_init 37 = .ok (.aload_n 2, 1) := by decide +kernel
theorem d_Nd_init_38 : decode b_Nd_init 38 = .ok (.putfield 28, 3) := by decide +kernel
theorem d_Nd_init_41 : decode b_Nd_init 41 = .ok (.aload_n 0, 1) := by decide +kernel
theorem d_Nd_init_42 : decode b_Nd_init 42 = .ok (.iload_n 3, 1) := by decide +kernel
theorem d_Nd_init_43 : decode b_Nd_init 43 = .ok (.putfield 32, 3) := by decide +kernel
theorem d_Nd_init_46 : decode b_Nd_init 46 = .ok (.return_, 1) := by decide +kernel
theorem d_Nd_putNumber_0 : decode b_Nd_putNumber 0 = .ok (.aload_n 0, 1) := by decide +kernel
theorem d_Nd_putNumber_1 : decode b_Nd_putNumber 1 = .ok (.getfield 15, 3) := by decide +kernel
theorem d_Nd_putNumber_4 : decode b_Nd_putNumber 4 = .ok (.iload_n 1, 1) := by decide +kernel
theorem d_Nd_putNumber_5 : decode b_Nd_putNumber 5 = .ok (.iconst 1, 1) := by decide +kernel
theorem d_Nd_putNumber_6 : decode b_Nd_putNumber 6 = .ok (.iastore, 1) := by decide +kernel
theorem d_Nd_putNumber_7 : decode b_Nd_putNumber 7 = .ok (.aload_n 0, 1) := by decide +kernel
theorem d_Nd_putNumber_8 : decode b_Nd_putNumber 8 = .ok (.getfield 19, 3) := by decide +kernel
theorem d_Nd_putNumber_11 : decode b_Nd_putNumber 11 = .ok (.iload_n 1, 1) := by decide +kernel
theorem d_Nd_putNumber_12 : decode b_Nd_putNumber 12 = .ok (.iload_n 2, 1) := by decide +kernel
theorem d_Nd_putNumber_13 : decode b_Nd_putNumber 13 = .ok (.iastore, 1) := by decide +kernel
theorem d_Nd_putNumber_14 : decode b_Nd_putNumber 14 = .ok (.return_, 1) := by decide +kernel
theorem d_Nd_putWord_0 : decode b_Nd_putWord 0 = .ok (.aload_n 0, 1) := by decide +kernel
theorem d_Nd_putWord_1 : decode b_Nd_putWord 1 = .ok (.getfield 15, 3) := by decide +kernel
theorem d_Nd_putWord_4 : decode b_Nd_putWord 4 = .ok (.iload_n 1, 1) := by decide +kernel
theorem d_Nd_putWord_5 : decode b_Nd_putWord 5 = .ok (.iconst 2, 1) := by decide +kernel
theorem d_Nd_putWord_6 : decode b_Nd_putWord 6 = .ok (.iastore, 1) := by decide +kernel
theorem d_Nd_putWord_7 : decode b_Nd_putWord 7 = .ok (.aload_n 0, 1) := by decide +kernel
theorem d_Nd_putWord_8 : decode b_Nd_putWord 8 = .ok (.getfield 22, 3) := by decide +kernel
theorem d_Nd_putWord_11 : decode b_Nd_putWord 11 = .ok (.iload_n 1, 1) := by decide +kernel
theorem d_Nd_putWord_12 : decode b_Nd_putWord 12 = .ok (.bipush 8, 2) := by decide +kernel
theorem d_Nd_putWord_14 : decode b_Nd_putWord 14 = .ok (.imul, 1) := by decide +kernel
theorem d_Nd_putWord_15 : decode b_Nd_putWord 15 = .ok (.aload_n 0, 1) := by decide +kernel
theorem d_Nd_putWord_16 : decode b_Nd_putWord 16 = .ok (.getfield 19, 3) := by decide +kernel
theorem d_Nd_putWord_19 : decode b_Nd_putWord 19 = .ok (.iload_n 1, 1) := by decide +kernel
theorem d_Nd_putWord_20 : decode b_Nd_putWord 20 = .ok (.iaload, 1) := by decide +kernel
theorem d_Nd_putWord_21 : decode b_Nd_putWord 21 = .ok (.iadd, 1) := by decide +kernel
theorem d_Nd_putWord_22 : decode b_Nd_putWord 22 = .ok (.iload_n 2, 1) := by decide +kernel
theorem d_Nd_putWord_23 : decode b_Nd_putWord 23 = .ok (.iastore, 1) := by decide +kernel
theorem d_Nd_putWord_24 : decode b_Nd_putWord 24 = .ok (.aload_n 0, 1) := by decide +kernel
theorem d_Nd_putWord_25 : decode b_Nd_putWord 25 = .ok (.getfield 19, 3) := by decide +kernel
theorem d_Nd_putWord_28 : decode b_Nd_putWord 28 = .ok (.iload_n 1, 1) := by decide +kernel
theorem d_Nd_putWord_29 : decode b_Nd_putWord 29 = .ok (.dup2, 1) := by decide +kernel
theorem d_Nd_putWord_30 : decode b_Nd_putWord 30 = .ok (.iaload, 1) := by decide +kernel
theorem d_Nd_putWord_31 : decode b_Nd_putWord 31 = .ok (.iconst 1, 1) := by decide +kernel
theorem d_Nd_putWord_32 : decode b_Nd_putWord 32 = .ok (.iadd, 1) := by decide +kernel
theorem d_Nd_putWord_33 : decode b_Nd_putWord 33 = .ok (.iastore, 1) := by decide +kernel
theorem d_Nd_putWord_34 : decode b_Nd_putWord 34 = .ok (.return_, 1) := by decide +kernel
theorem d_Nd_timesOf_0 : decode b_Nd_timesOf 0 = .ok (.aload_n 0, 1) := by decide +kernel
theorem d_Nd_timesOf_1 : decode b_Nd_timesOf 1 = .ok (.getfield 15, 3) := by decide +kernel
theorem d_Nd_timesOf_4 : decode b_Nd_timesOf 4 = .ok (.iload_n 1, 1) := by decide +kernel
theorem d_Nd_timesOf_5 : decode b_Nd_timesOf 5 = .ok (.iaload, 1) := by decide +kernel
theorem d_Nd_timesOf_6 : decode b_Nd_timesOf 6 = .ok (.iconst 2, 1) := by decide +kernel
theorem d_Nd_timesOf_7 : decode b_Nd_timesOf 7 = .ok (.if_icmp .eq 5, 3) := by decide +kernel
theorem d_Nd_timesOf_10 : decode b_Nd_timesOf 10 = .ok (.iconst 0, 1) := by decide +kernel
theorem d_Nd_timesOf_11 : decode b_Nd_timesOf 11 = .ok (.ireturn, 1) := by decide +kernel
theorem d_Nd_timesOf_12 : decode b_Nd_timesOf 12 = .ok (.iconst 0, 1) := by decide +kernel
theorem d_Nd_timesOf_13 : decode b_Nd_timesOf 13 = .ok (.istore_n 3, 1) := by decide +kernel
theorem d_Nd_timesOf_14 : decode b_Nd_timesOf 14 = .ok (.iconst 0, 1) := by decide +kernel
theorem d_Nd_timesOf_15 : decode b_Nd_timesOf 15 = .ok (.istore 4, 2) := by decide +kernel
theorem d_Nd_timesOf_17 : decode b_Nd_timesOf 17 = .ok (.iload 4, 2) := by decide +kernel
theorem d_Nd_timesOf_19 : decode b_Nd_timesOf 19 = .ok (.aload_n 0, 1) := by decide +kernel
theorem d_Nd_timesOf_20 : decode b_Nd_timesOf 20 = .ok (.getfield 19, 3) := by decide +kernel
theorem d_Nd_timesOf_23 : decode b_Nd_timesOf 23 = .ok (.iload_n 1, 1) := by decide +kernel
theorem d_Nd_timesOf_24 : decode b_Nd_timesOf 24 = .ok (.iaload, 1) := by decide +kernel
theorem d_Nd_timesOf_25 : decode b_Nd_timesOf 25 = .ok (.if_icmp .ge 28, 3) := by decide +kernel
theorem d_Nd_timesOf_28 : decode b_Nd_timesOf 28 = .ok (.aload_n 0, 1) := by decide +kernel
theorem d_Nd_timesOf_29 : decode b_Nd_timesOf 29 = .ok (.getfield 22, 3) := by decide +kernel
theorem d_Nd_timesOf_32 : decode b_Nd_timesOf 32 = .ok (.iload_n 1, 1) := by decide +kernel
theorem d_Nd_timesOf_33 : decode b_Nd_timesOf 33 = .ok (.bipush 8, 2) := by decide +kernel
theorem d_Nd_timesOf_35 : decode b_Nd_timesOf 35 = .ok (.imul, 1) := by decide +kernel
theorem d_Nd_timesOf_36 : decode b_Nd_timesOf 36 = .ok (.iload 4, 2) := by decide +kernel
theorem d_Nd_timesOf_38 : decode b_Nd_timesOf 38 = .ok (.iadd, 1) := by decide +kernel
theorem d_Nd_timesOf_39 : decode b_Nd_timesOf 39 = .ok (.iaload, 1) := by decide +kernel
theorem d_Nd_timesOf_40 : decode b_Nd_timesOf 40 = .ok (.iload_n 2, 1) := by decide +kernel
theorem d_Nd_timesOf_41 : decode b_Nd_timesOf 41 = .ok (.if_icmp .ne 6, 3) := by decide +kernel
theorem d_Nd_timesOf_44 : decode b_Nd_timesOf 44 = .ok (.iinc 3 1, 3) := by decide +kernel
theorem d_Nd_timesOf_47 : decode b_Nd_timesOf 47 = .ok (.iinc 4 1, 3) := by decide +kernel
theorem d_Nd_timesOf_50 : decode b_Nd_timesOf 50 = .ok (.goto (-33), 3) := by decide +kernel
theorem d_Nd_timesOf_53 : decode b_Nd_timesOf 53 = .ok (.iload_n 3, 1) := by decide +kernel
theorem d_Nd_timesOf_54 : decode b_Nd_timesOf 54 = .ok (.ireturn, 1) := by decide +kernel
theorem d_Nd_hasNumberWithin_0 : decode b_Nd_hasNumberWithin 0 = .ok (.aload_n 0, 1) := by decide +kernel
theorem d_Nd_hasNumberWithin_1 : decode b_Nd_hasNumberWithin 1 = .ok (.getfield 15, 3) := by decide +kernel
theorem d_Nd_hasNumberWithin_4 : decode b_Nd_hasNumberWithin 4 = .ok (.iload_n 1, 1) := by decide +kernel
theorem d_Nd_hasNumberWithin_5 : decode b_Nd_hasNumberWithin 5 = .ok (.iaload, 1) := by decide +kernel
theorem d_Nd_hasNumberWithin_6 : decode b_Nd_hasNumberWithin 6 = .ok (.iconst 1, 1) := by decide +kernel
theorem d_Nd_hasNumberWithin_7 : decode b_Nd_hasNumberWithin 7 = .ok (.if_icmp .ne 27, 3) := by decide +kernel
theorem d_Nd_hasNumberWithin_10 : decode b_Nd_hasNumberWithin 10 = .ok (.aload_n 0, 1) := by decide +kernel
theorem d_Nd_hasNumberWithin_11 : decode b_Nd_hasNumberWithin 11 = .ok (.getfield 19, 3) := by decide +kernel
theorem d_Nd_hasNumberWithin_14 : decode b_Nd_hasNumberWithin 14 = .ok (.iload_n 1, 1) := by decide +kernel
theorem d_Nd_hasNumberWithin_15 : decode b_Nd_hasNumberWithin 15 = .ok (.iaload, 1) := by decide +kernel
theorem d_Nd_hasNumberWithin_16 : decode b_Nd_hasNumberWithin 16 = .ok (.iload_n 2, 1) := by decide +kernel
theorem d_Nd_hasNumberWithin_17 : decode b_Nd_hasNumberWithin 17 = .ok (.if_icmp .lt 17, 3) := by decide +kernel
theorem d_Nd_hasNumberWithin_20 : decode b_Nd_hasNumberWithin 20 = .ok (.aload_n 0, 1) := by decide +kernel
theorem d_Nd_hasNumberWithin_21 : decode b_Nd_hasNumberWithin 21 = .ok (.getfield 19, 3) := by decide +kernel
theorem d_Nd_hasNumberWithin_24 : decode b_Nd_hasNumberWithin 24 = .ok (.iload_n 1, 1) := by decide +kernel
theorem d_Nd_hasNumberWithin_25 : decode b_Nd_hasNumberWithin 25 = .ok (.iaload, 1) := by decide +kernel
theorem d_Nd_hasNumberWithin_26 : decode b_Nd_hasNumberWithin 26 = .ok (.iload_n 3, 1) := by decide +kernel
theorem d_Nd_hasNumberWithin_27 : decode b_Nd_hasNumberWithin 27 = .ok (.if_icmp .gt 7, 3) := by decide +kernel
theorem d_Nd_hasNumberWithin_30 : decode b_Nd_hasNumberWithin 30 = .ok (.iconst 1, 1) := by decide +kernel
theorem d_Nd_hasNumberWithin_31 : decode b_Nd_hasNumberWithin 31 = .ok (.goto 4, 3) := by decide +kernel
theorem d_Nd_hasNumberWithin_34 : decode b_Nd_hasNumberWithin 34 = .ok (.iconst 0, 1) := by decide +kernel
theorem d_Nd_hasNumberWithin_35 : decode b_Nd_hasNumberWithin 35 = .ok (.ireturn, 1) := by decide +kernel
theorem d_Nd_fieldFact_0 : decode b_Nd_fieldFact 0 = .ok (.aload_n 0, 1) := by decide +kernel
theorem d_Nd_fieldFact_1 : decode b_Nd_fieldFact 1 = .ok (.getfield 15, 3) := by decide +kernel
theorem d_Nd_fieldFact_4 : decode b_Nd_fieldFact 4 = .ok (.iload_n 1, 1) := by decide +kernel
theorem d_Nd_fieldFact_5 : decode b_Nd_fieldFact 5 = .ok (.iaload, 1) := by decide +kernel
theorem d_Nd_fieldFact_6 : decode b_Nd_fieldFact 6 = .ok (.ifCond .ne 6, 3) := by decide +kernel
theorem d_Nd_fieldFact_9 : decode b_Nd_fieldFact 9 = .ok (.bipush (-2), 2) := by decide +kernel
theorem d_Nd_fieldFact_11 : decode b_Nd_fieldFact 11 = .ok (.ireturn, 1) := by decide +kernel
theorem d_Nd_fieldFact_12 : decode b_Nd_fieldFact 12 = .ok (.aload_n 0, 1) := by decide +kernel
theorem d_Nd_fieldFact_13 : decode b_Nd_fieldFact 13 = .ok (.getfield 15, 3) := by decide +kernel
theorem d_Nd_fieldFact_16 : decode b_Nd_fieldFact 16 = .ok (.iload_n 1, 1) := by decide +kernel
theorem d_Nd_fieldFact_17 : decode b_Nd_fieldFact 17 = .ok (.iaload, 1) := by decide +kernel
theorem d_Nd_fieldFact_18 : decode b_Nd_fieldFact 18 = .ok (.iconst 1, 1) := by decide +kernel
theorem d_Nd_fieldFact_19 : decode b_Nd_fieldFact 19 = .ok (.if_icmp .ne 12, 3) := by decide +kernel
theorem d_Nd_fieldFact_22 : decode b_Nd_fieldFact 22 = .ok (.aload_n 0, 1) := by decide +kernel
theorem d_Nd_fieldFact_23 : decode b_Nd_fieldFact 23 = .ok (.getfield 19, 3) := by decide +kernel
theorem d_Nd_fieldFact_26 : decode b_Nd_fieldFact 26 = .ok (.iload_n 1, 1) := by decide +kernel
theorem d_Nd_fieldFact_27 : decode b_Nd_fieldFact 27 = .ok (.iaload, 1) := by decide +kernel
theorem d_Nd_fieldFact_28 : decode b_Nd_fieldFact 28 = .ok (.goto 13, 3) := by decide +kernel
theorem d_Nd_fieldFact_31 : decode b_Nd_fieldFact 31 = .ok (.sipush 2000, 3) := by decide +kernel
theorem d_Nd_fieldFact_34 : decode b_Nd_fieldFact 34 = .ok (.aload_n 0, 1) := by decide +kernel
theorem d_Nd_fieldFact_35 : decode b_Nd_fieldFact 35 = .ok (.getfield 19, 3) := by decide +kernel
theorem d_Nd_fieldFact_38 : decode b_Nd_fieldFact 38 = .ok (.iload_n 1, 1) := by decide +kernel
theorem d_Nd_fieldFact_39 : decode b_Nd_fieldFact 39 = .ok (.iaload, 1) := by decide +kernel
theorem d_Nd_fieldFact_40 : decode b_Nd_fieldFact 40 = .ok (.iadd, 1) := by decide +kernel
theorem d_Nd_fieldFact_41 : decode b_Nd_fieldFact 41 = .ok (.ireturn, 1) := by decide +kernel
theorem d_Qu_init_0 : decode b_Qu_init 0 = .ok (.aload_n 0, 1) := by decide +kernel
theorem d_Qu_init_1 : decode b_Qu_init 1 = .ok (.invokespecial 3, 3) := by decide +kernel
theorem d_Qu_init_4 : decode b_Qu_init 4 = .ok (.aload_n 0, 1) := by decide +kernel
theorem d_Qu_init_5 : decode b_Qu_init 5 = .ok (.bipush 12, 2) := by decide +kernel
theorem d_Qu_init_7 : decode b_Qu_init 7 = .ok (.newarray .int, 2) := by decide +kernel
theorem d_Qu_init_9 : decode b_Qu_init 9 = .ok (.putfield 9, 3) := by decide +kernel
theorem d_Qu_init_12 : decode b_Qu_init 12 = .ok (.aload_n 0, 1) := by decide +kernel
theorem d_Qu_init_13 : decode b_Qu_init 13 = .ok (.bipush 12, 2) := by decide +kernel
theorem d_Qu_init_15 : decode b_Qu_init 15 = .ok (.newarray .int, 2) := by decide +kernel
theorem d_Qu_init_17 : decode b_Qu_init 17 = .ok (.putfield 15, 3) := by decide +kernel
theorem d_Qu_init_20 : decode b_Qu_init 20 = .ok (.aload_n 0, 1) := by decide +kernel
theorem d_Qu_init_21 : decode b_Qu_init 21 = .ok (.bipush 12, 2) := by decide +kernel
theorem d_Qu_init_23 : decode b_Qu_init 23 = .ok (.newarray .int, 2) := by decide +kernel
theorem d_Qu_init_25 : decode b_Qu_init 25 = .ok (.putfield 18, 3) := by decide +kernel
theorem d_Qu_init_28 : decode b_Qu_init 28 = .ok (.aload_n 0, 1) := by decide +kernel
theorem d_Qu_init_29 : decode b_Qu_init 29 = .ok (.bipush 12, 2) := by decide +kernel
theorem d_Qu_init_31 : decode b_Qu_init 31 = .ok (.newarray .int, 2) := by decide +kernel
theorem d_Qu_init_33 : decode b_Qu_init 33 = .ok (.putfield 21, 3) := by decide +kernel
theorem d_Qu_init_36 : decode b_Qu_init 36 = .ok (.aload_n 0, 1) := by decide +kernel
theorem d_Qu_init_37 : decode b_Qu_init 37 = .ok (.iconst 0, 1) := by decide +kernel
theorem d_Qu_init_38 : decode b_Qu_init 38 = .ok (.putfield 24, 3) := by decide +kernel
theorem d_Qu_init_41 : decode b_Qu_init 41 = .ok (.aload_n 0, 1) := by decide +kernel
theorem d_Qu_init_42 : decode b_Qu_init 42 = .ok (.bipush 13, 2) := by decide +kernel
theorem d_Qu_init_44 : decode b_Qu_init 44 = .ok (.newarray .int, 2) := by decide +kernel
theorem d_Qu_init_46 : decode b_Qu_init 46 = .ok (.putfield 28, 3) := by decide +kernel
theorem d_Qu_init_49 : decode b_Qu_init 49 = .ok (.aload_n 0, 1) := by decide +kernel
theorem d_Qu_init_50 : decode b_Qu_init 50 = .ok (.iconst 1, 1) := by decide +kernel
theorem d_Qu_init_51 : decode b_Qu_init 51 = .ok (.putfield 31, 3) := by decide +kernel
theorem d_Qu_init_54 : decode b_Qu_init 54 = .ok (.return_, 1) := by decide +kernel
theorem d_Qu_isComplete_0 : decode b_Qu_isComplete 0 = .ok (.aload_n 0, 1) := by decide +kernel
theorem d_Qu_isComplete_1 : decode b_Qu_isComplete 1 = .ok (.getfield 31, 3) := by decide +kernel
theorem d_Qu_isComplete_4 : decode b_Qu_isComplete 4 = .ok (.ifCond .ne 7, 3) := by decide +kernel
theorem d_Qu_isComplete_7 : decode b_Qu_isComplete 7 = .ok (.iconst 1, 1) := by decide +kernel
theorem d_Qu_isComplete_8 : decode b_Qu_isComplete 8 = .ok (.goto 4, 3) := by decide +kernel
theorem d_Qu_isComplete_11 : decode b_Qu_isComplete 11 = .ok (.iconst 0, 1) := by decide +kernel
theorem d_Qu_isComplete_12 : decode b_Qu_isComplete 12 = .ok (.ireturn, 1) := by decide +kernel
theorem d_Qu_nextPath_0 : decode b_Qu_nextPath 0 = .ok (.aload_n 0, 1) := by decide +kernel
theorem d_Qu_nextPath_1 : decode b_Qu_nextPath 1 = .ok (.getfield 31, 3) := by decide +kernel
theorem d_Qu_nextPath_4 : decode b_Qu_nextPath 4 = .ok (.ifCond .le 17, 3) := by decide +kernel
theorem d_Qu_nextPath_7 : decode b_Qu_nextPath 7 = .ok (.aload_n 0, 1) := by decide +kernel
theorem d_Qu_nextPath_8 : decode b_Qu_nextPath 8 = .ok (.getfield 28, 3) := by decide +kernel
theorem d_Qu_nextPath_11 : decode b_Qu_nextPath 11 = .ok (.aload_n 0, 1) := by decide +kernel
theorem d_Qu_nextPath_12 : decode b_Qu_nextPath 12 = .ok (.getfield 31, 3) := by decide +kernel
theorem d_Qu_nextPath_15 : decode b_Qu_nextPath 15 = .ok (.iconst 1, 1) := by decide +kernel
theorem d_Qu_nextPath_16 : decode b_Qu_nextPath 16 = .ok (.isub, 1) := by decide +kernel
theorem d_Qu_nextPath_17 : decode b_Qu_nextPath 17 = .ok (.iaload, 1) := by decide +kernel
theorem d_Qu_nextPath_18 : decode b_Qu_nextPath 18 = .ok (.goto 4, 3) := by decide +kernel
theorem d_Qu_nextPath_21 : decode b_Qu_nextPath 21 = .ok (.iconst 0, 1) := by decide +kernel
theorem d_Qu_nextPath_22 : decode b_Qu_nextPath 22 = .ok (.ireturn, 1) := by decide +kernel
theorem d_Qu_append_0 : decode b_Qu_append 0 = .ok (.aload_n 0, 1) := by decide +kernel
theorem d_Qu_append_1 : decode b_Qu_append 1 = .ok (.invokevirtual 34, 3) := by decide +kernel
theorem d_Qu_append_4 : decode b_Qu_append 4 = .ok (.istore 4, 2) := by decide +kernel
theorem d_Qu_append_6 : decode b_Qu_append 6 = .ok (.aload_n 0, 1) := by decide +kernel
theorem d_Qu_append_7 : decode b_Qu_append 7 = .ok (.getfield 9, 3) := by decide +kernel
theorem d_Qu_append_10 : decode b_Qu_append 10 = .ok (.aload_n 0, 1) := by decide +kernel
theorem d_Qu_append_11 : decode b_Qu_append 11 = .ok (.getfield 24, 3) := by decide +kernel
theorem d_Qu_append_14 : decode b_Qu_append 14 = .ok (.iload_n 1, 1) := by decide +kernel
theorem d_Qu_append_15 : decode b_Qu_append 15 = .ok (.iastore, 1) := by decide +kernel
theorem d_Qu_append_16 : decode b_Qu_append 16 = .ok (.aload_n 0, 1) := by decide +kernel
theorem d_Qu_append_17 : decode b_Qu_append 17 = .ok (.getfield 15, 3) := by decide +kernel
theorem d_Qu_append_20 : decode b_Qu_append 20 = .ok (.aload_n 0, 1) := by decide +kernel
theorem d_Qu_append_21 : decode b_Qu_append 21 = .ok (.getfield 24, 3) := by decide +kernel
theorem d_Qu_append_24 : decode b_Qu_append 24 = .ok (.iload_n 2, 1) := by decide +kernel
theorem d_Qu_append_25 : decode b_Qu_append 25 = .ok (.iastore, 1) := by decide +kernel
theorem d_Qu_append_26 : decode b_Qu_append 26 = .ok (.aload_n 0, 1) := by decide +kernel
theorem d_Qu_append_27 : decode b_Qu_append 27 = .ok (.getfield 18, 3) := by decide +kernel
theorem d_Qu_append_30 : decode b_Qu_append 30 = .ok (.aload_n 0, 1) := by decide +kernel
theorem d_Qu_append_31 : decode b_Qu_append 31 = .ok (.getfield 24, 3) := by decide +kernel
theorem d_Qu_append_34 : decode b_Qu_append 34 = .ok (.iload_n 3, 1) := by decide +kernel
theorem d_Qu_append_35 : decode b_Qu_append 35 = .ok (.iastore, 1) := by decide +kernel
theorem d_Qu_append_36 : decode b_Qu_append 36 = .ok (.aload_n 0, 1) := by decide +kernel
theorem d_Qu_append_37 : decode b_Qu_append 37 = .ok (.getfield 21, 3) := by decide +kernel
theorem d_Qu_append_40 : decode b_Qu_append 40 = .ok (.aload_n 0, 1) := by decide +kernel
theorem d_Qu_append_41 : decode b_Qu_append 41 = .ok (.getfield 24, 3) := by decide +kernel
theorem d_Qu_append_44 : decode b_Qu_append 44 = .ok (.iload 4, 2) := by decide +kernel
theorem d_Qu_append_46 : decode b_Qu_append 46 = .ok (.iastore, 1) := by decide +kernel
theorem d_Qu_append_47 : decode b_Qu_append 47 = .ok (.aload_n 0, 1) := by decide +kernel
theorem d_Qu_append_48 : decode b_Qu_append 48 = .ok (.dup, 1) := by decide +kernel
theorem d_Qu_append_49 : decode b_Qu_append 49 = .ok (.getfield 24, 3) := by decide +kernel
theorem d_Qu_append_52 : decode b_Qu_append 52 = .ok (.iconst 1, 1) := by decide +kernel
theorem d_Qu_append_53 : decode b_Qu_append 53 = .ok (.iadd, 1) := by decide +kernel
theorem d_Qu_append_54 : decode b_Qu_append 54 = .ok (.putfield 24, 3) := by decide +kernel
theorem d_Qu_append_57 : decode b_Qu_append 57 = .ok (.aload_n 0, 1) := by decide +kernel
theorem d_Qu_append_58 : decode b_Qu_append 58 = .ok (.dup, 1) := by decide +kernel
theorem d_Qu_append_59 : decode b_Qu_append 59 = .ok (.getfield 31, 3) := by decide +kernel
theorem d_Qu_append_62 : decode b_Qu_append 62 = .ok (.iconst 1, 1) := by decide +kernel
theorem d_Qu_append_63 : decode b_Qu_append 63 = .ok (.isub, 1) := by decide +kernel
theorem d_Qu_append_64 : decode b_Qu_append 64 = .ok (.putfield 31, 3) := by decide +kernel
theorem d_Qu_append_67 : decode b_Qu_append 67 = .ok (.iload_n 1, 1) := by decide +kernel
theorem d_Qu_append_68 : decode b_Qu_append 68 = .ok (.invokestatic 38, 3) := by decide +kernel
theorem d_Qu_append_71 : decode b_Qu_append 71 = .ok (.istore 5, 2) := by decide +kernel
theorem d_Qu_append_73 : decode b_Qu_append 73 = .ok (.iconst 0, 1) := by decide +kernel
theorem d_Qu_append_74 : decode b_Qu_append 74 = .ok (.istore 6, 2) := by decide +kernel
theorem d_Qu_append_76 : decode b_Qu_append 76 = .ok (.iload 6, 2) := by decide +kernel
theorem d_Qu_append_78 : decode b_Qu_append 78 = .ok (.iload 5, 2) := by decide +kernel
theorem d_Qu_append_80 : decode b_Qu_append 80 = .ok (.if_icmp .ge 40, 3) := by decide +kernel
theorem d_Qu_append_83 : decode b_Qu_append 83 = .ok (.aload_n 0, 1) := by decide +kernel
theorem d_Qu_append_84 : decode b_Qu_append 84 = .ok (.getfield 28, 3) := by decide +kernel
theorem d_Qu_append_87 : decode b_Qu_append 87 = .ok (.aload_n 0, 1) := by decide +kernel
theorem d_Qu_append_88 : decode b_Qu_append 88 = .ok (.getfield 31, 3) := by decide +kernel
theorem d_Qu_append_91 : decode b_Qu_append 91 = .ok (.iload_n 1, 1) := by decide +kernel
theorem d_Qu_append_92 : decode b_Qu_append 92 = .ok (.bipush 8, 2) := by decide +kernel
theorem d_Qu_append_94 : decode b_Qu_append 94 = .ok (.if_icmp .ne 7, 3) := by decide +kernel
theorem d_Qu_append_97 : decode b_Qu_append 97 = .ok (.iload_n 2, 1) := by decide +kernel
theorem d_Qu_append_98 : decode b_Qu_append 98 = .ok (.goto 5, 3) := by decide +kernel
theorem d_Qu_append_101 : decode b_Qu_append 101 = .ok (.iload 4, 2) := by decide +kernel
theorem d_Qu_append_103 : decode b_Qu_append 103 = .ok (.iastore, 1) := by decide +kernel
theorem d_Qu_append_104 : decode b_Qu_append 104 = .ok (.aload_n 0, 1) := by decide +kernel
theorem d_Qu_append_105 : decode b_Qu_append 105 = .ok (.dup, 1) := by decide +kernel
theorem d_Qu_append_106 : decode b_Qu_append 106 = .ok (.getfield 31, 3) := by decide +kernel
theorem d_Qu_append_109 : decode b_Qu_append 109 = .ok (.iconst 1, 1) := by decide +kernel
theorem d_Qu_append_110 : decode b_Qu_append 110 = .ok (.iadd, 1) := by decide +kernel
theorem d_Qu_append_111 : decode b_Qu_append 111 = .ok (.putfield 31, 3) := by decide +kernel
theorem d_Qu_append_114 : decode b_Qu_append 114 = .ok (.iinc 6 1, 3) := by decide +kernel
theorem d_Qu_append_117 : decode b_Qu_append 117 = .ok (.goto (-41), 3) := by decide +kernel
theorem d_Qu_append_120 : decode b_Qu_append 120 = .ok (.return_, 1) := by decide +kernel
theorem d_Qu_drop_0 : decode b_Qu_drop 0 = .ok (.aload_n 0, 1) := by decide +kernel
theorem d_Qu_drop_1 : decode b_Qu_drop 1 = .ok (.iconst 0, 1) := by decide +kernel
theorem d_Qu_drop_2 : decode b_Qu_drop 2 = .ok (.putfield 24, 3) := by decide +kernel
theorem d_Qu_drop_5 : decode b_Qu_drop 5 = .ok (.aload_n 0, 1) := by decide +kernel
theorem d_Qu_drop_6 : decode b_Qu_drop 6 = .ok (.getfield 28, 3) := by decide +kernel
theorem d_Qu_drop_9 : decode b_Qu_drop 9 = .ok (.iconst 0, 1) := by decide +kernel
theorem d_Qu_drop_10 : decode b_Qu_drop 10 = .ok (.iconst 0, 1) := by decide +kernel
theorem d_Qu_drop_11 : decode b_Qu_drop 11 = .ok (.iastore, 1) := by decide +kernel
theorem d_Qu_drop_12 : decode b_Qu_drop 12 = .ok (.aload_n 0, 1) := by decide +kernel
theorem d_Qu_drop_13 : decode b_Qu_drop 13 = .ok (.iconst 1, 1) := by decide +kernel
theorem d_Qu_drop_14 : decode b_Qu_drop 14 = .ok (.putfield 31, 3) := by decide +kernel
theorem d_Qu_drop_17 : decode b_Qu_drop 17 = .ok (.return_, 1) := by decide +kernel
theorem d_Qu_behind_0 : decode b_Qu_behind 0 = .ok (.iload_n 1, 1) := by decide +kernel
theorem d_Qu_behind_1 : decode b_Qu_behind 1 = .ok (.istore_n 2, 1) := by decide +kernel
theorem d_Qu_behind_2 : decode b_Qu_behind 2 = .ok (.iconst 1, 1) := by decide +kernel
theorem d_Qu_behind_3 : decode b_Qu_behind 3 = .ok (.istore_n 3, 1) := by decide +kernel
theorem d_Qu_behind_4 : decode b_Qu_behind 4 = .ok (.iload_n 3, 1) := by decide +kernel
theorem d_Qu_behind_5 : decode b_Qu_behind 5 = .ok (.ifCond .le 31, 3) := by decide +kernel
theorem d_Qu_behind_8 : decode b_Qu_behind 8 = .ok (.iload_n 2, 1) := by decide +kernel
theorem d_Qu_behind_9 : decode b_Qu_behind 9 = .ok (.aload_n 0, 1) := by decide +kernel
theorem d_Qu_behind_10 : decode b_Qu_behind 10 = .ok (.getfield 24, 3) := by decide +kernel
theorem d_Qu_behind_13 : decode b_Qu_behind 13 = .ok (.if_icmp .ge 23, 3) := by decide +kernel
theorem d_Qu_behind_16 : decode b_Qu_behind 16 = .ok (.iload_n 3, 1) := by decide +kernel
theorem d_Qu_behind_17 : decode b_Qu_behind 17 = .ok (.aload_n 0, 1) := by decide +kernel
theorem d_Qu_behind_18 : decode b_Qu_behind 18 = .ok (.getfield 9, 3) := by decide +kernel
theorem d_Qu_behind_21 : decode b_Qu_behind 21 = .ok (.iload_n 2, 1) := by decide +kernel
theorem d_Qu_behind_22 : decode b_Qu_behind 22 = .ok (.iaload, 1) := by decide +kernel
theorem d_Qu_behind_23 : decode b_Qu_behind 23 = .ok (.invokestatic 38, 3) := by decide +kernel
theorem d_Qu_behind_26 : decode b_Qu_behind 26 = .ok (.iconst 1, 1) := by decide +kernel
theorem d_Qu_behind_27 : decode b_Qu_behind 27 = .ok (.isub, 1) := by decide +kernel
theorem d_Qu_behind_28 : decode b_Qu_behind 28 = .ok (.iadd, 1) := by decide +kernel
theorem d_Qu_behind_29 : decode b_Qu_behind 29 = .ok (.istore_n 3, 1) := by decide +kernel
theorem d_Qu_behind_30 : decode b_Qu_behind 30 = .ok (.iinc 2 1, 3) := by decide +kernel
theorem d_Qu_behind_33 : decode b_Qu_behind 33 = .ok (.goto (-29), 3) := by decide +kernel
theorem d_Qu_behind_36 : decode b_Qu_behind 36 = .ok (.iload_n 2, 1) := by decide +kernel
theorem d_Qu_behind_37 : decode b_Qu_behind 37 = .ok (.ireturn, 1) := by decide +kernel
theorem d_Qu_partsOf_0 : decode b_Qu_partsOf 0 = .ok (.iload_n 0, 1) := by decide +kernel
theorem d_Qu_partsOf_1 : decode b_Qu_partsOf 1 = .ok (.tableswitch 35 5 8 #[31, 31, 33, 33], 31) := by decide +kernel
theorem d_Qu_partsOf_32 : decode b_Qu_partsOf 32 = .ok (.iconst 2, 1) := by decide +kernel
theorem d_Qu_partsOf_33 : decode b_Qu_partsOf 33 = .ok (.ireturn, 1) := by decide +kernel
theorem d_Qu_partsOf_34 : decode b_Qu_partsOf 34 = .ok (.iconst 1, 1) := by decide +kernel
theorem d_Qu_partsOf_35 : decode b_Qu_partsOf 35 = .ok (.ireturn, 1) := by decide +kernel
theorem d_Qu_partsOf_36 : decode b_Qu_partsOf 36 = .ok (.iconst 0, 1) := by decide +kernel
theorem d_Qu_partsOf_37 : decode b_Qu_partsOf 37 = .ok (.ireturn, 1) := by decide +kernel
theorem d_Sc_init_0 : decode b_Sc_init 0 = .ok (.aload_n 0, 1) := by decide +kernel
theorem d_Sc_init_1 : decode b_Sc_init 1 = .ok (.invokespecial 3, 3) := by decide +kernel
theorem d_Sc_init_4 : decode b_Sc_init 4 = .ok (.aload_n 0, 1) := by decide +kernel
theorem d_Sc_init_5 : decode b_Sc_init 5 = .ok (.bipush 12, 2) := by decide +kernel
theorem d_Sc_init_7 : decode b_Sc_init 7 = .ok (.newarray .int, 2) := by decide +kernel
theorem d_Sc_init_9 : decode b_Sc_init 9 = .ok (.putfield 9, 3) := by decide +kernel
theorem d_Sc_init_12 : decode b_Sc_init 12 = .ok (.aload_n 0, 1) := by decide +kernel
theorem d_Sc_init_13 : decode b_Sc_init 13 = .ok (.bipush 12, 2) := by decide +kernel
theorem d_Sc_init_15 : decode b_Sc_init 15 = .ok (.newarray .int, 2) := by decide +kernel
theorem d_Sc_init_17 : decode b_Sc_init 17 = .ok (.putfield 15, 3) := by decide +kernel
theorem d_Sc_init_20 : decode b_Sc_init 20 = .ok (.aload_n 0, 1) := by decide +kernel
theorem d_Sc_init_21 : decode b_Sc_init 21 = .ok (.bipush 12, 2) := by decide +kernel
theorem d_Sc_init_23 : decode b_Sc_init 23 = .ok (.bipush 10, 2) := by decide +kernel
theorem d_Sc_init_25 : decode b_Sc_init 25 = .ok (.multianewarray 18 2, 4) := by decide +kernel
theorem d_Sc_init_29 : decode b_Sc_init 29 = .ok (.putfield 20, 3) := by decide +kernel
theorem d_Sc_init_32 : decode b_Sc_init 32 = .ok (.return_, 1) := by decide +kernel
theorem d_Sc_prepare_0 : decode b_Sc_prepare 0 = .ok (.iconst 0, 1) := by decide +kernel
theorem d_Sc_prepare_1 : decode b_Sc_prepare 1 = .ok (.istore_n 3, 1) := by decide +kernel
theorem d_Sc_prepare_2 : decode b_Sc_prepare 2 = .ok (.iload_n 3, 1) := by decide +kernel
theorem d_Sc_prepare_3 : decode b_Sc_prepare 3 = .ok (.aload_n 1, 1) := by decide +kernel
theorem d_Sc_prepare_4 : decode b_Sc_prepare 4 = .ok (.getfield 23, 3) := by decide +kernel
theorem d_Sc_prepare_7 : decode b_Sc_prepare 7 = .ok (.if_icmp .ge 60, 3) := by decide +kernel
theorem d_Sc_prepare_10 : decode b_Sc_prepare 10 = .ok (.aload_n 1, 1) := by decide +kernel
theorem d_Sc_prepare_11 : decode b_Sc_prepare 11 = .ok (.getfield 29, 3) := by decide +kernel
theorem d_Sc_prepare_14 : decode b_Sc_prepare 14 = .ok (.iload_n 3, 1) := by decide +kernel
theorem d_Sc_prepare_15 : decode b_Sc_prepare 15 = .ok (.iaload, 1) := by decide +kernel
theorem d_Sc_prepare_16 : decode b_Sc_prepare 16 = .ok (.istore 4, 2) := by decide +kernel
theorem d_Sc_prepare_18 : decode b_Sc_prepare 18 = .ok (.iload 4, 2) := by decide +kernel
theorem d_Sc_prepare_20 : decode b_Sc_prepare 20 = .ok (.ifCond .ne 15, 3) := by decide +kernel
theorem d_Sc_prepare_23 : decode b_Sc_prepare 23 = .ok (.aload_n 0, 1) := by decide +kernel
theorem d_Sc_prepare_24 : decode b_Sc_prepare 24 = .ok (.getfield 9, 3) := by decide +kernel
theorem d_Sc_prepare_27 : decode b_Sc_prepare 27 = .ok (.iload_n 3, 1) := by decide +kernel
theorem d_Sc_prepare_28 : decode b_Sc_prepare 28 = .ok (.aload_n 1, 1) := by decide +kernel
theorem d_Sc_prepare_29 : decode b_Sc_prepare 29 = .ok (.iload_n 3, 1) := by decide +kernel
theorem d_Sc_prepare_30 : decode b_Sc_prepare 30 = .ok (.aload_n 2, 1) := by decide +kernel
theorem d_Sc_prepare_31 : decode b_Sc_prepare 31 = .ok (.invokestatic 32, 3) := by decide +kernel
theorem d_Sc_prepare_34 : decode b_Sc_prepare 34 = .ok (.iastore, 1) := by decide +kernel
theorem d_Sc_prepare_35 : decode b_Sc_prepare 35 = .ok (.iload 4, 2) := by decide +kernel
theorem d_Sc_prepare_37 : decode b_Sc_prepare 37 = .ok (.iconst 5, 1) := by decide +kernel
theorem d_Sc_prepare_38 : decode b_Sc_prepare 38 = .ok (.if_icmp .eq 10, 3) := by decide +kernel
theorem d_Sc_prepare_41 : decode b_Sc_prepare 41 = .ok (.iload 4, 2) := by decide +kernel
theorem d_Sc_prepare_43 : decode b_Sc_prepare 43 = .ok (.bipush 6, 2) := by decide +kernel
theorem d_Sc_prepare_45 : decode b_Sc_prepare 45 = .ok (.if_icmp .ne 16, 3) := by decide +kernel
theorem d_Sc_prepare_48 : decode b_Sc_prepare 48 = .ok (.aload_n 0, 1) := by decide +kernel
theorem d_Sc_prepare_49 : decode b_Sc_prepare 49 = .ok (.getfield 15, 3) := by decide +kernel
theorem d_Sc_prepare_52 : decode b_Sc_prepare 52 = .ok (.iload_n 3, 1) := by decide +kernel
theorem d_Sc_prepare_53 : decode b_Sc_prepare 53 = .ok (.aload_n 1, 1) := by decide +kernel
theorem d_Sc_prepare_54 : decode b_Sc_prepare 54 = .ok (.iload_n 3, 1) := by decide +kernel
theorem d_Sc_prepare_55 : decode b_Sc_prepare 55 = .ok (.iconst 1, 1) := by decide +kernel
theorem d_Sc_prepare_56 : decode b_Sc_prepare 56 = .ok (.iadd, 1) := by decide +kernel
theorem d_Sc_prepare_57 : decode b_Sc_prepare 57 = .ok (.invokevirtual 36, 3) := by decide +kernel
theorem d_Sc_prepare_60 : decode b_Sc_prepare 60 = .ok (.iastore, 1) := by decide +kernel
theorem d_Sc_prepare_61 : decode b_Sc_prepare 61 = .ok (.iinc 3 1, 3) := by decide +kernel
theorem d_Sc_prepare_64 : decode b_Sc_prepare 64 = .ok (.goto (-62), 3) := by decide +kernel
theorem d_Sc_prepare_67 : decode b_Sc_prepare 67 = .ok (.return_, 1) := by decide +kernel
theorem d_Sc_weightOf_0 : decode b_Sc_weightOf 0 = .ok (.iconst 0, 1) := by decide +kernel
theorem d_Sc_weightOf_1 : decode b_Sc_weightOf 1 = .ok (.istore_n 3, 1) := by decide +kernel
theorem d_Sc_weightOf_2 : decode b_Sc_weightOf 2 = .ok (.iconst 0, 1) := by decide +kernel
theorem d_Sc_weightOf_3 : decode b_Sc_weightOf 3 = .ok (.istore 4, 2) := by decide +kernel
theorem d_Sc_weightOf_5 : decode b_Sc_weightOf 5 = .ok (.iconst 0, 1) := by decide +kernel
theorem d_Sc_weightOf_6 : decode b_Sc_weightOf 6 = .ok (.istore 5, 2) := by decide +kernel
theorem d_Sc_weightOf_8 : decode b_Sc_weightOf 8 = .ok (.iload 5, 2) := by decide +kernel
theorem d_Sc_weightOf_10 : decode b_Sc_weightOf 10 = .ok (.aload_n 2, 1) := by decide +kernel
theorem d_Sc_weightOf_11 : decode b_Sc_weightOf 11 = .ok (.getfield 40, 3) := by decide +kernel
theorem d_Sc_weightOf_14 : decode b_Sc_weightOf 14 = .ok (.if_icmp .ge 89, 3) := by decide +kernel
theorem d_Sc_weightOf_17 : decode b_Sc_weightOf 17 = .ok (.aload_n 2, 1) := by decide +kernel
theorem d_Sc_weightOf_18 : decode b_Sc_weightOf 18 = .ok (.getfield 43, 3) := by decide +kernel
theorem d_Sc_weightOf_21 : decode b_Sc_weightOf 21 = .ok (.iload 5, 2) := by decide +kernel
theorem d_Sc_weightOf_23 : decode b_Sc_weightOf 23 = .ok (.aaload, 1) := by decide +kernel
theorem d_Sc_weightOf_24 : decode b_Sc_weightOf 24 = .ok (.getfield 47, 3) := by decide +kernel
theorem d_Sc_weightOf_27 : decode b_Sc_weightOf 27 = .ok (.astore 6, 2) := by decide +kernel
theorem d_Sc_weightOf_29 : decode b_Sc_weightOf 29 = .ok (.aload 6, 2) := by decide +kernel
theorem d_Sc_weightOf_31 : decode b_Sc_weightOf 31 = .ok (.arraylength, 1) := by decide +kernel
theorem d_Sc_weightOf_32 : decode b_Sc_weightOf 32 = .ok (.istore 7, 2) := by decide +kernel
theorem d_Sc_weightOf_34 : decode b_Sc_weightOf 34 = .ok (.iconst 0, 1) := by decide +kernel
theorem d_Sc_weightOf_35 : decode b_Sc_weightOf 35 = .ok (.istore 8, 2) := by decide +kernel
theorem d_Sc_weightOf_37 : decode b_Sc_weightOf 37 = .ok (.iload 8, 2) := by decide +kernel
theorem d_Sc_weightOf_39 : decode b_Sc_weightOf 39 = .ok (.iload 7, 2) := by decide +kernel
theorem d_Sc_weightOf_41 : decode b_Sc_weightOf 41 = .ok (.if_icmp .ge 56, 3) := by decide +kernel
theorem d_Sc_weightOf_44 : decode b_Sc_weightOf 44 = .ok (.aload 6, 2) := by decide +kernel
theorem d_Sc_weightOf_46 : decode b_Sc_weightOf 46 = .ok (.iload 8, 2) := by decide +kernel
theorem d_Sc_weightOf_48 : decode b_Sc_weightOf 48 = .ok (.aaload, 1) := by decide +kernel
theorem d_Sc_weightOf_49 : decode b_Sc_weightOf 49 = .ok (.astore 9, 2) := by decide +kernel
theorem d_Sc_weightOf_51 : decode b_Sc_weightOf 51 = .ok (.aload 9, 2) := by decide +kernel
theorem d_Sc_weightOf_53 : decode b_Sc_weightOf 53 = .ok (.getfield 53, 3) := by decide +kernel
theorem d_Sc_weightOf_56 : decode b_Sc_weightOf 56 = .ok (.aload_n 0, 1) := by decide +kernel
theorem d_Sc_weightOf_57 : decode b_Sc_weightOf 57 = .ok (.getfield 58, 3) := by decide +kernel
theorem d_Sc_weightOf_60 : decode b_Sc_weightOf 60 = .ok (.iload_n 1, 1) := by decide +kernel
theorem d_Sc_weightOf_61 : decode b_Sc_weightOf 61 = .ok (.iaload, 1) := by decide +kernel
theorem d_Sc_weightOf_62 : decode b_Sc_weightOf 62 = .ok (.if_icmp .ne 29, 3) := by decide +kernel
theorem d_Sc_weightOf_65 : decode b_Sc_weightOf 65 = .ok (.iinc 3 1, 3) := by decide +kernel
theorem d_Sc_weightOf_68 : decode b_Sc_weightOf 68 = .ok (.aload 9, 2) := by decide +kernel
theorem d_Sc_weightOf_70 : decode b_Sc_weightOf 70 = .ok (.aload_n 0, 1) := by decide +kernel
theorem d_Sc_weightOf_71 : decode b_Sc_weightOf 71 = .ok (.getfield 61, 3) := by decide +kernel
theorem d_Sc_weightOf_74 : decode b_Sc_weightOf 74 = .ok (.iload_n 1, 1) := by decide +kernel
theorem d_Sc_weightOf_75 : decode b_Sc_weightOf 75 = .ok (.iaload, 1) := by decide +kernel
theorem d_Sc_weightOf_76 : decode b_Sc_weightOf 76 = .ok (.aload_n 0, 1) := by decide +kernel
theorem d_Sc_weightOf_77 : decode b_Sc_weightOf 77 = .ok (.getfield 64, 3) := by decide +kernel
theorem d_Sc_weightOf_80 : decode b_Sc_weightOf 80 = .ok (.iload_n 1, 1) := by decide +kernel
theorem d_Sc_weightOf_81 : decode b_Sc_weightOf 81 = .ok (.iaload, 1) := by decide +kernel
theorem d_Sc_weightOf_82 : decode b_Sc_weightOf 82 = .ok (.invokevirtual 67, 3) := by decide +kernel
theorem d_Sc_weightOf_85 : decode b_Sc_weightOf 85 = .ok (.ifCond .le 6, 3) := by decide +kernel
theorem d_Sc_weightOf_88 : decode b_Sc_weightOf 88 = .ok (.iinc 4 1, 3) := by decide +kernel
theorem d_Sc_weightOf_91 : decode b_Sc_weightOf 91 = .ok (.iinc 8 1, 3) := by decide +kernel
theorem d_Sc_weightOf_94 : decode b_Sc_weightOf 94 = .ok (.goto (-57), 3) := by decide +kernel
theorem d_Sc_weightOf_97 : decode b_Sc_weightOf 97 = .ok (.iinc 5 1, 3) := by decide +kernel
theorem d_Sc_weightOf_100 : decode b_Sc_weightOf 100 = .ok (.goto (-92), 3) := by decide +kernel
theorem d_Sc_weightOf_103 : decode b_Sc_weightOf 103 = .ok (.iload 4, 2) := by decide +kernel
theorem d_Sc_weightOf_105 : decode b_Sc_weightOf 105 = .ok (.ifCond .ne 7, 3) := by decide +kernel
theorem d_Sc_weightOf_108 : decode b_Sc_weightOf 108 = .ok (.iconst 0, 1) := by decide +kernel
theorem d_Sc_weightOf_109 : decode b_Sc_weightOf 109 = .ok (.goto 9, 3) := by decide +kernel
theorem d_Sc_weightOf_112 : decode b_Sc_weightOf 112 = .ok (.iconst 1, 1) := by decide +kernel
theorem d_Sc_weightOf_113 : decode b_Sc_weightOf 113 = .ok (.iload_n 3, 1) := by decide +kernel
theorem d_Sc_weightOf_114 : decode b_Sc_weightOf 114 = .ok (.iload 4, 2) := by decide +kernel
theorem d_Sc_weightOf_116 : decode b_Sc_weightOf 116 = .ok (.idiv, 1) := by decide +kernel
theorem d_Sc_weightOf_117 : decode b_Sc_weightOf 117 = .ok (.iadd, 1) := by decide +kernel
theorem d_Sc_weightOf_118 : decode b_Sc_weightOf 118 = .ok (.ireturn, 1) := by decide +kernel
theorem d_Sc_pointsOf_0 : decode b_Sc_pointsOf 0 = .ok (.aload_n 2, 1) := by decide +kernel
theorem d_Sc_pointsOf_1 : decode b_Sc_pointsOf 1 = .ok (.getfield 47, 3) := by decide +kernel
theorem d_Sc_pointsOf_4 : decode b_Sc_pointsOf 4 = .ok (.astore_n 3, 1) := by decide +kernel
theorem d_Sc_pointsOf_5 : decode b_Sc_pointsOf 5 = .ok (.aload_n 1, 1) := by decide +kernel
theorem d_Sc_pointsOf_6 : decode b_Sc_pointsOf 6 = .ok (.getfield 23, 3) := by decide +kernel
theorem d_Sc_pointsOf_9 : decode b_Sc_pointsOf 9 = .ok (.iconst 1, 1) := by decide +kernel
theorem d_Sc_pointsOf_10 : decode b_Sc_pointsOf 10 = .ok (.isub, 1) := by decide +kernel
theorem d_Sc_pointsOf_11 : decode b_Sc_pointsOf 11 = .ok (.istore 4, 2) := by decide +kernel
theorem d_Sc_pointsOf_13 : decode b_Sc_pointsOf 13 = .ok (.iload 4, 2) := by decide +kernel
theorem d_Sc_pointsOf_15 : decode b_Sc_pointsOf 15 = .ok (.ifCond .lt 62, 3) := by decide +kernel
theorem d_Sc_pointsOf_18 : decode b_Sc_pointsOf 18 = .ok (.iconst 0, 1) := by decide +kernel
theorem d_Sc_pointsOf_19 : decode b_Sc_pointsOf 19 = .ok (.istore 5, 2) := by decide +kernel
theorem d_Sc_pointsOf_21 : decode b_Sc_pointsOf 21 = .ok (.iload 5, 2) := by decide +kernel
theorem d_Sc_pointsOf_23 : decode b_Sc_pointsOf 23 = .ok (.aload_n 3, 1) := by decide +kernel
theorem d_Sc_pointsOf_24 : decode b_Sc_pointsOf 24 = .ok (.arraylength, 1) := by decide +kernel
theorem d_Sc_pointsOf_25 : decode b_Sc_pointsOf 25 = .ok (.if_icmp .ge 46, 3) := by decide +kernel
theorem d_Sc_pointsOf_28 : decode b_Sc_pointsOf 28 = .ok (.aload_n 3, 1) := by decide +kernel
theorem d_Sc_pointsOf_29 : decode b_Sc_pointsOf 29 = .ok (.iload 5, 2) := by decide +kernel
theorem d_Sc_pointsOf_31 : decode b_Sc_pointsOf 31 = .ok (.aaload, 1) := by decide +kernel
theorem d_Sc_pointsOf_32 : decode b_Sc_pointsOf 32 = .ok (.getfield 53, 3) := by decide +kernel
theorem d_Sc_pointsOf_35 : decode b_Sc_pointsOf 35 = .ok (.aload_n 1, 1) := by decide +kernel
theorem d_Sc_pointsOf_36 : decode b_Sc_pointsOf 36 = .ok (.getfield 58, 3) := by decide +kernel
theorem d_Sc_pointsOf_39 : decode b_Sc_pointsOf 39 = .ok (.iload 4, 2) := by decide +kernel
theorem d_Sc_pointsOf_41 : decode b_Sc_pointsOf 41 = .ok (.iaload, 1) := by decide +kernel
theorem d_Sc_pointsOf_42 : decode b_Sc_pointsOf 42 = .ok (.if_icmp .ne 23, 3) := by decide +kernel
theorem d_Sc_pointsOf_45 : decode b_Sc_pointsOf 45 = .ok (.aload_n 0, 1) := by decide +kernel
theorem d_Sc_pointsOf_46 : decode b_Sc_pointsOf 46 = .ok (.getfield 20, 3) := by decide +kernel
theorem d_Sc_pointsOf_49 : decode b_Sc_pointsOf 49 = .ok (.iload 4, 2) := by decide +kernel
theorem d_Sc_pointsOf_51 : decode b_Sc_pointsOf 51 = .ok (.aaload, 1) := by decide +kernel
theorem d_Sc_pointsOf_52 : decode b_Sc_pointsOf 52 = .ok (.iload 5, 2) := by decide +kernel
theorem d_Sc_pointsOf_54 : decode b_Sc_pointsOf 54 = .ok (.aload_n 0, 1) := by decide +kernel
theorem d_Sc_pointsOf_55 : decode b_Sc_pointsOf 55 = .ok (.aload_n 1, 1) := by decide +kernel
theorem d_Sc_pointsOf_56 : decode b_Sc_pointsOf 56 = .ok (.iload 4, 2) := by decide +kernel
theorem d_Sc_pointsOf_58 : decode b_Sc_pointsOf 58 = .ok (.aload_n 3, 1) := by decide +kernel
theorem d_Sc_pointsOf_59 : decode b_Sc_pointsOf 59 = .ok (.iload 5, 2) := by decide +kernel
theorem d_Sc_pointsOf_61 : decode b_Sc_pointsOf 61 = .ok (.invokevirtual 71, 3) := by decide +kernel
theorem d_Sc_pointsOf_64 : decode b_Sc_pointsOf 64 = .ok (.iastore, 1) := by decide +kernel
theorem d_Sc_pointsOf_65 : decode b_Sc_pointsOf 65 = .ok (.iinc 5 1, 3) := by decide +kernel
theorem d_Sc_pointsOf_68 : decode b_Sc_pointsOf 68 = .ok (.goto (-47), 3) := by decide +kernel
theorem d_Sc_pointsOf_71 : decode b_Sc_pointsOf 71 = .ok (.iinc 4 (-1), 3) := by decide +kernel
theorem d_Sc_pointsOf_74 : decode b_Sc_pointsOf 74 = .ok (.goto (-61), 3) := by decide +kernel
theorem d_Sc_pointsOf_77 : decode b_Sc_pointsOf 77 = .ok (.aload_n 0, 1) := by decide +kernel
theorem d_Sc_pointsOf_78 : decode b_Sc_pointsOf 78 = .ok (.getfield 20, 3) := by decide +kernel
theorem d_Sc_pointsOf_81 : decode b_Sc_pointsOf 81 = .ok (.iconst 0, 1) := by decide +kernel
theorem d_Sc_pointsOf_82 : decode b_Sc_pointsOf 82 = .ok (.aaload, 1) := by decide +kernel
theorem d_Sc_pointsOf_83 : decode b_Sc_pointsOf 83 = .ok (.aload_n 3, 1) := by decide +kernel
theorem d_Sc_pointsOf_84 : decode b_Sc_pointsOf 84 = .ok (.arraylength, 1) := by decide +kernel
theorem d_Sc_pointsOf_85 : decode b_Sc_pointsOf 85 = .ok (.iconst 1, 1) := by decide +kernel
theorem d_Sc_pointsOf_86 : decode b_Sc_pointsOf 86 = .ok (.isub, 1) := by decide +kernel
theorem d_Sc_pointsOf_87 : decode b_Sc_pointsOf 87 = .ok (.iaload, 1) := by decide +kernel
theorem d_Sc_pointsOf_88 : decode b_Sc_pointsOf 88 = .ok (.ireturn, 1) := by decide +kernel
theorem d_Sc_pointsAt_0 : decode b_Sc_pointsAt 0 = .ok (.aload_n 1, 1) := by decide +kernel
theorem d_Sc_pointsAt_1 : decode b_Sc_pointsAt 1 = .ok (.getfield 61, 3) := by decide +kernel
theorem d_Sc_pointsAt_4 : decode b_Sc_pointsAt 4 = .ok (.iload_n 2, 1) := by decide +kernel
theorem d_Sc_pointsAt_5 : decode b_Sc_pointsAt 5 = .ok (.iaload, 1) := by decide +kernel
theorem d_Sc_pointsAt_6 : decode b_Sc_pointsAt 6 = .ok (.istore 5, 2) := by decide +kernel
theorem d_Sc_pointsAt_8 : decode b_Sc_pointsAt 8 = .ok (.aload_n 1, 1) := by decide +kernel
theorem d_Sc_pointsAt_9 : decode b_Sc_pointsAt 9 = .ok (.getfield 64, 3) := by decide +kernel
theorem d_Sc_pointsAt_12 : decode b_Sc_pointsAt 12 = .ok (.iload_n 2, 1) := by decide +kernel
theorem d_Sc_pointsAt_13 : decode b_Sc_pointsAt 13 = .ok (.iaload, 1) := by decide +kernel
