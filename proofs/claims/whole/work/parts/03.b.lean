theorem dX0_init_0 : decode cX0_init 0 = .ok (.aload_n 0, 1) := by decide +kernel
theorem dX0_init_1 : decode cX0_init 1 = .ok (.invokespecial 3, 3) := by decide +kernel
theorem dX0_init_4 : decode cX0_init 4 = .ok (.aload_n 0, 1) := by decide +kernel
theorem dX0_init_5 : decode cX0_init 5 = .ok (.bipush 8, 2) := by decide +kernel
theorem dX0_init_7 : decode cX0_init 7 = .ok (.anewarray 9, 3) := by decide +kernel
theorem dX0_init_10 : decode cX0_init 10 = .ok (.putfield 11, 3) := by decide +kernel
theorem dX0_init_13 : decode cX0_init 13 = .ok (.iconst 0, 1) := by decide +kernel
theorem dX0_init_14 : decode cX0_init 14 = .ok (.istore_n 2, 1) := by decide +kernel
theorem dX0_init_15 : decode cX0_init 15 = .ok (.iload_n 2, 1) := by decide +kernel
theorem dX0_init_16 : decode cX0_init 16 = .ok (.bipush 8, 2) := by decide +kernel
theorem dX0_init_18 : decode cX0_init 18 = .ok (.if_icmp .ge 23, 3) := by decide +kernel
theorem dX0_init_21 : decode cX0_init 21 = .ok (.aload_n 0, 1) := by decide +kernel
theorem dX0_init_22 : decode cX0_init 22 = .ok (.getfield 11, 3) := by decide +kernel
theorem dX0_init_25 : decode cX0_init 25 = .ok (.iload_n 2, 1) := by decide +kernel
theorem dX0_init_26 : decode cX0_init 26 = .ok (.new 9, 3) := by decide +kernel
theorem dX0_init_29 : decode cX0_init 29 = .ok (.dup, 1) := by decide +kernel
theorem dX0_init_30 : decode cX0_init 30 = .ok (.aload_n 1, 1) := by decide +kernel
theorem dX0_init_31 : decode cX0_init 31 = .ok (.invokespecial 17, 3) := by decide +kernel
theorem dX0_init_34 : decode cX0_init 34 = .ok (.aastore, 1) := by decide +kernel
theorem dX0_init_35 : decode cX0_init 35 = .ok (.iinc 2 1, 3) := by decide +kernel
theorem dX0_init_38 : decode cX0_init 38 = .ok (.goto (-23), 3) := by decide +kernel
theorem dX0_init_41 : decode cX0_init 41 = .ok (.return_, 1) := by decide +kernel
theorem dX0_keep_0 : decode cX0_keep 0 = .ok (.aload_n 0, 1) := by decide +kernel
theorem dX0_keep_1 : decode cX0_keep 1 = .ok (.getfield 11, 3) := by decide +kernel
theorem dX0_keep_4 : decode cX0_keep 4 = .ok (.aload_n 0, 1) := by decide +kernel
theorem dX0_keep_5 : decode cX0_keep 5 = .ok (.getfield 20, 3) := by decide +kernel
theorem dX0_keep_8 : decode cX0_keep 8 = .ok (.aload_n 0, 1) := by decide +kernel
theorem dX0_keep_9 : decode cX0_keep 9 = .ok (.getfield 24, 3) := by decide +kernel
theorem dX0_keep_12 : decode cX0_keep 12 = .ok (.iadd, 1) := by decide +kernel
theorem dX0_keep_13 : decode cX0_keep 13 = .ok (.bipush 8, 2) := by decide +kernel
theorem dX0_keep_15 : decode cX0_keep 15 = .ok (.irem, 1) := by decide +kernel
theorem dX0_keep_16 : decode cX0_keep 16 = .ok (.aaload, 1) := by decide +kernel
theorem dX0_keep_17 : decode cX0_keep 17 = .ok (.aload_n 1, 1) := by decide +kernel
theorem dX0_keep_18 : decode cX0_keep 18 = .ok (.invokevirtual 27, 3) := by decide +kernel
theorem dX0_keep_21 : decode cX0_keep 21 = .ok (.aload_n 0, 1) := by decide +kernel
theorem dX0_keep_22 : decode cX0_keep 22 = .ok (.getfield 24, 3) := by decide +kernel
theorem dX0_keep_25 : decode cX0_keep 25 = .ok (.bipush 8, 2) := by decide +kernel
theorem dX0_keep_27 : decode cX0_keep 27 = .ok (.if_icmp .ge 16, 3) := by decide +kernel
theorem dX0_keep_30 : decode cX0_keep 30 = .ok (.aload_n 0, 1) := by decide +kernel
theorem dX0_keep_31 : decode cX0_keep 31 = .ok (.dup, 1) := by decide +kernel
theorem dX0_keep_32 : decode cX0_keep 32 = .ok (.getfield 24, 3) := by decide +kernel
theorem dX0_keep_35 : decode cX0_keep 35 = .ok (.iconst 1, 1) := by decide +kernel
theorem dX0_keep_36 : decode cX0_keep 36 = .ok (.iadd, 1) := by decide +kernel
theorem dX0_keep_37 : decode cX0_keep 37 = .ok (.putfield 24, 3) := by decide +kernel
theorem dX0_keep_40 : decode cX0_keep 40 = .ok (.goto 16, 3) := by decide +kernel
theorem dX0_keep_43 : decode cX0_keep 43 = .ok (.aload_n 0, 1) := by decide +kernel
theorem dX0_keep_44 : decode cX0_keep 44 = .ok (.aload_n 0, 1) := by decide +kernel
theorem dX0_keep_45 : decode cX0_keep 45 = .ok (.getfield 20, 3) := by decide +kernel
theorem dX0_keep_48 : decode cX0_keep 48 = .ok (.iconst 1, 1) := by decide +kernel
theorem dX0_keep_49 : decode cX0_keep 49 = .ok (.iadd, 1) := by decide +kernel
theorem dX0_keep_50 : decode cX0_keep 50 = .ok (.bipush 8, 2) := by decide +kernel
theorem dX0_keep_52 : decode cX0_keep 52 = .ok (.irem, 1) := by decide +kernel
theorem dX0_keep_53 : decode cX0_keep 53 = .ok (.putfield 20, 3) := by decide +kernel
theorem dX0_keep_56 : decode cX0_keep 56 = .ok (.return_, 1) := by decide +kernel
theorem dX0_bringBackTo_0 : decode cX0_bringBackTo 0 = .ok (.aload_n 0, 1) := by decide +kernel
theorem dX0_bringBackTo_1 : decode cX0_bringBackTo 1 = .ok (.getfield 24, 3) := by decide +kernel
theorem dX0_bringBackTo_4 : decode cX0_bringBackTo 4 = .ok (.ifCond .le 34, 3) := by decide +kernel
theorem dX0_bringBackTo_7 : decode cX0_bringBackTo 7 = .ok (.aload_n 0, 1) := by decide +kernel
theorem dX0_bringBackTo_8 : decode cX0_bringBackTo 8 = .ok (.dup, 1) := by decide +kernel
theorem dX0_bringBackTo_9 : decode cX0_bringBackTo 9 = .ok (.getfield 24, 3) := by decide +kernel
theorem dX0_bringBackTo_12 : decode cX0_bringBackTo 12 = .ok (.iconst 1, 1) := by decide +kernel
theorem dX0_bringBackTo_13 : decode cX0_bringBackTo 13 = .ok (.isub, 1) := by decide +kernel
theorem dX0_bringBackTo_14 : decode cX0_bringBackTo 14 = .ok (.putfield 24, 3) := by decide +kernel
theorem dX0_bringBackTo_17 : decode cX0_bringBackTo 17 = .ok (.aload_n 1, 1) := by decide +kernel
theorem dX0_bringBackTo_18 : decode cX0_bringBackTo 18 = .ok (.aload_n 0, 1) := by decide +kernel
theorem dX0_bringBackTo_19 : decode cX0_bringBackTo 19 = .ok (.getfield 11, 3) := by decide +kernel
theorem dX0_bringBackTo_22 : decode cX0_bringBackTo 22 = .ok (.aload_n 0, 1) := by decide +kernel
theorem dX0_bringBackTo_23 : decode cX0_bringBackTo 23 = .ok (.getfield 20, 3) := by decide +kernel
theorem dX0_bringBackTo_26 : decode cX0_bringBackTo 26 = .ok (.aload_n 0, 1) := by decide +kernel
theorem dX0_bringBackTo_27 : decode cX0_bringBackTo 27 = .ok (.getfield 24, 3) := by decide +kernel
theorem dX0_bringBackTo_30 : decode cX0_bringBackTo 30 = .ok (.iadd, 1) := by decide +kernel
theorem dX0_bringBackTo_31 : decode cX0_bringBackTo 31 = .ok (.bipush 8, 2) := by decide +kernel
theorem dX0_bringBackTo_33 : decode cX0_bringBackTo 33 = .ok (.irem, 1) := by decide +kernel
theorem dX0_bringBackTo_34 : decode cX0_bringBackTo 34 = .ok (.aaload, 1) := by decide +kernel
theorem dX0_bringBackTo_35 : decode cX0_bringBackTo 35 = .ok (.invokevirtual 27, 3) := by decide +kernel
theorem dX0_bringBackTo_38 : decode cX0_bringBackTo 38 = .ok (.return_, 1) := by decide +kernel
theorem dX0_forget_0 : decode cX0_forget 0 = .ok (.aload_n 0, 1) := by decide +kernel
theorem dX0_forget_1 : decode cX0_forget 1 = .ok (.iconst 0, 1) := by decide +kernel
theorem dX0_forget_2 : decode cX0_forget 2 = .ok (.putfield 24, 3) := by decide +kernel
theorem dX0_forget_5 : decode cX0_forget 5 = .ok (.return_, 1) := by decide +kernel
theorem dX1_init_0 : decode cX1_init 0 = .ok (.aload_n 0, 1) := by decide +kernel
theorem dX1_init_1 : decode cX1_init 1 = .ok (.invokespecial 3, 3) := by decide +kernel
theorem dX1_init_4 : decode cX1_init 4 = .ok (.return_, 1) := by decide +kernel
theorem dX1_copyFrom_0 : decode cX1_copyFrom 0 = .ok (.aload_n 0, 1) := by decide +kernel
theorem dX1_copyFrom_1 : decode cX1_copyFrom 1 = .ok (.aload_n 1, 1) := by decide +kernel
theorem dX1_copyFrom_2 : decode cX1_copyFrom 2 = .ok (.getfield 9, 3) := by decide +kernel
theorem dX1_copyFrom_5 : decode cX1_copyFrom 5 = .ok (.putfield 9, 3) := by decide +kernel
theorem dX1_copyFrom_8 : decode cX1_copyFrom 8 = .ok (.aload_n 0, 1) := by decide +kernel
theorem dX1_copyFrom_9 : decode cX1_copyFrom 9 = .ok (.aload_n 1, 1) := by decide +kernel
theorem dX1_copyFrom_10 : decode cX1_copyFrom 10 = .ok (.getfield 15, 3) := by decide +kernel
theorem dX1_copyFrom_13 : decode cX1_copyFrom 13 = .ok (.putfield 15, 3) := by decide +kernel
theorem dX1_copyFrom_16 : decode cX1_copyFrom 16 = .ok (.aload_n 0, 1) := by decide +kernel
theorem dX1_copyFrom_17 : decode cX1_copyFrom 17 = .ok (.aload_n 1, 1) := by decide +kernel
theorem dX1_copyFrom_18 : decode cX1_copyFrom 18 = .ok (.getfield 18, 3) := by decide +kernel
theorem dX1_copyFrom_21 : decode cX1_copyFrom 21 = .ok (.putfield 18, 3) := by decide +kernel
theorem dX1_copyFrom_24 : decode cX1_copyFrom 24 = .ok (.aload_n 0, 1) := by decide +kernel
theorem dX1_copyFrom_25 : decode cX1_copyFrom 25 = .ok (.aload_n 1, 1) := by decide +kernel
theorem dX1_copyFrom_26 : decode cX1_copyFrom 26 = .ok (.getfield 21, 3) := by decide +kernel
theorem dX1_copyFrom_29 : decode cX1_copyFrom 29 = .ok (.putfield 21, 3) := by decide +kernel
theorem dX1_copyFrom_32 : decode cX1_copyFrom 32 = .ok (.aload_n 0, 1) := by decide +kernel
theorem dX1_copyFrom_33 : decode cX1_copyFrom 33 = .ok (.aload_n 1, 1) := by decide +kernel
theorem dX1_copyFrom_34 : decode cX1_copyFrom 34 = .ok (.getfield 24, 3) := by decide +kernel
theorem dX1_copyFrom_37 : decode cX1_copyFrom 37 = .ok (.putfield 24, 3) := by decide +kernel
theorem dX1_copyFrom_40 : decode cX1_copyFrom 40 = .ok (.return_, 1) := by decide +kernel
theorem dX1_canLeaveAt_0 : decode cX1_canLeaveAt 0 = .ok (.aload_n 0, 1) := by decide +kernel
theorem dX1_canLeaveAt_1 : decode cX1_canLeaveAt 1 = .ok (.getfield 24, 3) := by decide +kernel
theorem dX1_canLeaveAt_4 : decode cX1_canLeaveAt 4 = .ok (.ifCond .ne 18, 3) := by decide +kernel
theorem dX1_canLeaveAt_7 : decode cX1_canLeaveAt 7 = .ok (.iload_n 1, 1) := by decide +kernel
theorem dX1_canLeaveAt_8 : decode cX1_canLeaveAt 8 = .ok (.bipush 6, 2) := by decide +kernel
theorem dX1_canLeaveAt_10 : decode cX1_canLeaveAt 10 = .ok (.irem, 1) := by decide +kernel
theorem dX1_canLeaveAt_11 : decode cX1_canLeaveAt 11 = .ok (.aload_n 0, 1) := by decide +kernel
theorem dX1_canLeaveAt_12 : decode cX1_canLeaveAt 12 = .ok (.getfield 21, 3) := by decide +kernel
theorem dX1_canLeaveAt_15 : decode cX1_canLeaveAt 15 = .ok (.if_icmp .eq 7, 3) := by decide +kernel
theorem dX1_canLeaveAt_18 : decode cX1_canLeaveAt 18 = .ok (.iconst 1, 1) := by decide +kernel
theorem dX1_canLeaveAt_19 : decode cX1_canLeaveAt 19 = .ok (.goto 4, 3) := by decide +kernel
theorem dX1_canLeaveAt_22 : decode cX1_canLeaveAt 22 = .ok (.iconst 0, 1) := by decide +kernel
theorem dX1_canLeaveAt_23 : decode cX1_canLeaveAt 23 = .ok (.ireturn, 1) := by decide +kernel
theorem dX1_arrivalWhenReadyAt_0 : decode cX1_arrivalWhenReadyAt 0 = .ok (.iload_n 1, 1) := by decide +kernel
theorem dX1_arrivalWhenReadyAt_1 : decode cX1_arrivalWhenReadyAt 1 = .ok (.bipush 6, 2) := by decide +kernel
theorem dX1_arrivalWhenReadyAt_3 : decode cX1_arrivalWhenReadyAt 3 = .ok (.irem, 1) := by decide +kernel
theorem dX1_arrivalWhenReadyAt_4 : decode cX1_arrivalWhenReadyAt 4 = .ok (.aload_n 0, 1) := by decide +kernel
theorem dX1_arrivalWhenReadyAt_5 : decode cX1_arrivalWhenReadyAt 5 = .ok (.getfield 21, 3) := by decide +kernel
theorem dX1_arrivalWhenReadyAt_8 : decode cX1_arrivalWhenReadyAt 8 = .ok (.if_icmp .ne 7, 3) := by decide +kernel
theorem dX1_arrivalWhenReadyAt_11 : decode cX1_arrivalWhenReadyAt 11 = .ok (.iconst 1, 1) := by decide +kernel
theorem dX1_arrivalWhenReadyAt_12 : decode cX1_arrivalWhenReadyAt 12 = .ok (.goto 4, 3) := by decide +kernel
theorem dX1_arrivalWhenReadyAt_15 : decode cX1_arrivalWhenReadyAt 15 = .ok (.iconst 0, 1) := by decide +kernel
theorem dX1_arrivalWhenReadyAt_16 : decode cX1_arrivalWhenReadyAt 16 = .ok (.istore_n 2, 1) := by decide +kernel
theorem dX1_arrivalWhenReadyAt_17 : decode cX1_arrivalWhenReadyAt 17 = .ok (.iload_n 1, 1) := by decide +kernel
theorem dX1_arrivalWhenReadyAt_18 : decode cX1_arrivalWhenReadyAt 18 = .ok (.iload_n 2, 1) := by decide +kernel
theorem dX1_arrivalWhenReadyAt_19 : decode cX1_arrivalWhenReadyAt 19 = .ok (.iadd, 1) := by decide +kernel
theorem dX1_arrivalWhenReadyAt_20 : decode cX1_arrivalWhenReadyAt 20 = .ok (.aload_n 0, 1) := by decide +kernel
theorem dX1_arrivalWhenReadyAt_21 : decode cX1_arrivalWhenReadyAt 21 = .ok (.getfield 18, 3) := by decide +kernel
theorem dX1_arrivalWhenReadyAt_24 : decode cX1_arrivalWhenReadyAt 24 = .ok (.iadd, 1) := by decide +kernel
theorem dX1_arrivalWhenReadyAt_25 : decode cX1_arrivalWhenReadyAt 25 = .ok (.ireturn, 1) := by decide +kernel
theorem dX1_writeTo_0 : decode cX1_writeTo 0 = .ok (.aload_n 1, 1) := by decide +kernel
theorem dX1_writeTo_1 : decode cX1_writeTo 1 = .ok (.bipush 40, 2) := by decide +kernel
theorem dX1_writeTo_3 : decode cX1_writeTo 3 = .ok (.invokevirtual 28, 3) := by decide +kernel
theorem dX1_writeTo_6 : decode cX1_writeTo 6 = .ok (.aload_n 0, 1) := by decide +kernel
theorem dX1_writeTo_7 : decode cX1_writeTo 7 = .ok (.getfield 9, 3) := by decide +kernel
theorem dX1_writeTo_10 : decode cX1_writeTo 10 = .ok (.invokevirtual 34, 3) := by decide +kernel
theorem dX1_writeTo_13 : decode cX1_writeTo 13 = .ok (.bipush 45, 2) := by decide +kernel
theorem dX1_writeTo_15 : decode cX1_writeTo 15 = .ok (.invokevirtual 28, 3) := by decide +kernel
theorem dX1_writeTo_18 : decode cX1_writeTo 18 = .ok (.aload_n 0, 1) := by decide +kernel
theorem dX1_writeTo_19 : decode cX1_writeTo 19 = .ok (.getfield 15, 3) := by decide +kernel
theorem dX1_writeTo_22 : decode cX1_writeTo 22 = .ok (.invokevirtual 34, 3) := by decide +kernel
theorem dX1_writeTo_25 : decode cX1_writeTo 25 = .ok (.ldc 37, 2) := by decide +kernel
theorem dX1_writeTo_27 : decode cX1_writeTo 27 = .ok (.invokevirtual 39, 3) := by decide +kernel
theorem dX1_writeTo_30 : decode cX1_writeTo 30 = .ok (.pop, 1) := by decide +kernel
theorem dX1_writeTo_31 : decode cX1_writeTo 31 = .ok (.aload_n 1, 1) := by decide +kernel
theorem dX1_writeTo_32 : decode cX1_writeTo 32 = .ok (.aload_n 0, 1) := by decide +kernel
theorem dX1_writeTo_33 : decode cX1_writeTo 33 = .ok (.getfield 18, 3) := by decide +kernel
theorem dX1_writeTo_36 : decode cX1_writeTo 36 = .ok (.invokevirtual 34, 3) := by decide +kernel
theorem dX1_writeTo_39 : decode cX1_writeTo 39 = .ok (.ldc 42, 2) := by decide +kernel
theorem dX1_writeTo_41 : decode cX1_writeTo 41 = .ok (.invokevirtual 39, 3) := by decide +kernel
theorem dX1_writeTo_44 : decode cX1_writeTo 44 = .ok (.aload_n 0, 1) := by decide +kernel
theorem dX1_writeTo_45 : decode cX1_writeTo 45 = .ok (.getfield 21, 3) := by decide +kernel
theorem dX1_writeTo_48 : decode cX1_writeTo 48 = .ok (.invokevirtual 34, 3) := by decide +kernel
theorem dX1_writeTo_51 : decode cX1_writeTo 51 = .ok (.pop, 1) := by decide +kernel
theorem dX1_writeTo_52 : decode cX1_writeTo 52 = .ok (.aload_n 0, 1) := by decide +kernel
theorem dX1_writeTo_53 : decode cX1_writeTo 53 = .ok (.getfield 24, 3) := by decide +kernel
theorem dX1_writeTo_56 : decode cX1_writeTo 56 = .ok (.ifCond .eq 10, 3) := by decide +kernel
theorem dX1_writeTo_59 : decode cX1_writeTo 59 = .ok (.aload_n 1, 1) := by decide +kernel
theorem dX1_writeTo_60 : decode cX1_writeTo 60 = .ok (.ldc 44, 2) := by decide +kernel
theorem dX1_writeTo_62 : decode cX1_writeTo 62 = .ok (.invokevirtual 39, 3) := by decide +kernel
theorem dX1_writeTo_65 : decode cX1_writeTo 65 = .ok (.pop, 1) := by decide +kernel
theorem dX1_writeTo_66 : decode cX1_writeTo 66 = .ok (.iload_n 2, 1) := by decide +kernel
theorem dX1_writeTo_67 : decode cX1_writeTo 67 = .ok (.ifCond .le 14, 3) := by decide +kernel
theorem dX1_writeTo_70 : decode cX1_writeTo 70 = .ok (.aload_n 1, 1) := by decide +kernel
theorem dX1_writeTo_71 : decode cX1_writeTo 71 = .ok (.ldc 46, 2) := by decide +kernel
theorem dX1_writeTo_73 : decode cX1_writeTo 73 = .ok (.invokevirtual 39, 3) := by decide +kernel
theorem dX1_writeTo_76 : decode cX1_writeTo 76 = .ok (.iload_n 2, 1) := by decide +kernel
theorem dX1_writeTo_77 : decode cX1_writeTo 77 = .ok (.invokevirtual 34, 3) := by decide +kernel
theorem dX1_writeTo_80 : decode cX1_writeTo 80 = .ok (.pop, 1) := by decide +kernel
theorem dX1_writeTo_81 : decode cX1_writeTo 81 = .ok (.return_, 1) := by decide +kernel
theorem dX2_init_0 : decode cX2_init 0 = .ok (.aload_n 0, 1) := by decide +kernel
theorem dX2_init_1 : decode cX2_init 1 = .ok (.invokespecial 3, 3) := by decide +kernel
theorem dX2_init_4 : decode cX2_init 4 = .ok (.aload_n 0, 1) := by decide +kernel
theorem dX2_init_5 : decode cX2_init 5 = .ok (.bipush 20, 2) := by decide +kernel
theorem dX2_init_7 : decode cX2_init 7 = .ok (.anewarray 9, 3) := by decide +kernel
theorem dX2_init_10 : decode cX2_init 10 = .ok (.putfield 11, 3) := by decide +kernel
theorem dX2_init_13 : decode cX2_init 13 = .ok (.iconst 0, 1) := by decide +kernel
theorem dX2_init_14 : decode cX2_init 14 = .ok (.istore_n 1, 1) := by decide +kernel
theorem dX2_init_15 : decode cX2_init 15 = .ok (.iload_n 1, 1) := by decide +kernel
theorem dX2_init_16 : decode cX2_init 16 = .ok (.bipush 20, 2) := by decide +kernel
theorem dX2_init_18 : decode cX2_init 18 = .ok (.if_icmp .ge 22, 3) := by decide +kernel
theorem dX2_init_21 : decode cX2_init 21 = .ok (.aload_n 0, 1) := by decide +kernel
theorem dX2_init_22 : decode cX2_init 22 = .ok (.getfield 11, 3) := by decide +kernel
theorem dX2_init_25 : decode cX2_init 25 = .ok (.iload_n 1, 1) := by decide +kernel
theorem dX2_init_26 : decode cX2_init 26 = .ok (.new 9, 3) := by decide +kernel
theorem dX2_init_29 : decode cX2_init 29 = .ok (.dup, 1) := by decide +kernel
theorem dX2_init_30 : decode cX2_init 30 = .ok (.invokespecial 17, 3) := by decide +kernel
theorem dX2_init_33 : decode cX2_init 33 = .ok (.aastore, 1) := by decide +kernel
theorem dX2_init_34 : decode cX2_init 34 = .ok (.iinc 1 1, 3) := by decide +kernel
theorem dX2_init_37 : decode cX2_init 37 = .ok (.goto (-22), 3) := by decide +kernel
theorem dX2_init_40 : decode cX2_init 40 = .ok (.return_, 1) := by decide +kernel
theorem dX2_copyFrom_0 : decode cX2_copyFrom 0 = .ok (.aload_n 0, 1) := by decide +kernel
theorem dX2_copyFrom_1 : decode cX2_copyFrom 1 = .ok (.aload_n 1, 1) := by decide +kernel
theorem dX2_copyFrom_2 : decode cX2_copyFrom 2 = .ok (.getfield 18, 3) := by decide +kernel
theorem dX2_copyFrom_5 : decode cX2_copyFrom 5 = .ok (.putfield 18, 3) := by decide +kernel
theorem dX2_copyFrom_8 : decode cX2_copyFrom 8 = .ok (.aload_n 0, 1) := by decide +kernel
theorem dX2_copyFrom_9 : decode cX2_copyFrom 9 = .ok (.aload_n 1, 1) := by decide +kernel
theorem dX2_copyFrom_10 : decode cX2_copyFrom 10 = .ok (.getfield 22, 3) := by decide +kernel
theorem dX2_copyFrom_13 : decode cX2_copyFrom 13 = .ok (.putfield 22, 3) := by decide +kernel
theorem dX2_copyFrom_16 : decode cX2_copyFrom 16 = .ok (.iconst 0, 1) := by decide +kernel
theorem dX2_copyFrom_17 : decode cX2_copyFrom 17 = .ok (.istore_n 2, 1) := by decide +kernel
theorem dX2_copyFrom_18 : decode cX2_copyFrom 18 = .ok (.iload_n 2, 1) := by decide +kernel
theorem dX2_copyFrom_19 : decode cX2_copyFrom 19 = .ok (.aload_n 0, 1) := by decide +kernel
theorem dX2_copyFrom_20 : decode cX2_copyFrom 20 = .ok (.getfield 22, 3) := by decide +kernel
theorem dX2_copyFrom_23 : decode cX2_copyFrom 23 = .ok (.if_icmp .ge 24, 3) := by decide +kernel
theorem dX2_copyFrom_26 : decode cX2_copyFrom 26 = .ok (.aload_n 0, 1) := by decide +kernel
theorem dX2_copyFrom_27 : decode cX2_copyFrom 27 = .ok (.getfield 11, 3) := by decide +kernel
theorem dX2_copyFrom_30 : decode cX2_copyFrom 30 = .ok (.iload_n 2, 1) := by decide +kernel
theorem dX2_copyFrom_31 : decode cX2_copyFrom 31 = .ok (.aaload, 1) := by decide +kernel
theorem dX2_copyFrom_32 : decode cX2_copyFrom 32 = .ok (.aload_n 1, 1) := by decide +kernel
theorem dX2_copyFrom_33 : decode cX2_copyFrom 33 = .ok (.getfield 11, 3) := by decide +kernel
theorem dX2_copyFrom_36 : decode cX2_copyFrom 36 = .ok (.iload_n 2, 1) := by decide +kernel
theorem dX2_copyFrom_37 : decode cX2_copyFrom 37 = .ok (.aaload, 1) := by decide +kernel
theorem dX2_copyFrom_38 : decode cX2_copyFrom 38 = .ok (.invokevirtual 25, 3) := by decide +kernel
theorem dX2_copyFrom_41 : decode cX2_copyFrom 41 = .ok (.iinc 2 1, 3) := by decide +kernel
theorem dX2_copyFrom_44 : decode cX2_copyFrom 44 = .ok (.goto (-26), 3) := by decide +kernel
theorem dX2_copyFrom_47 : decode cX2_copyFrom 47 = .ok (.return_, 1) := by decide +kernel
theorem dX2_hasPlace_0 : decode cX2_hasPlace 0 = .ok (.iload_n 1, 1) := by decide +kernel
theorem dX2_hasPlace_1 : decode cX2_hasPlace 1 = .ok (.ifCond .lt 15, 3) := by decide +kernel
theorem dX2_hasPlace_4 : decode cX2_hasPlace 4 = .ok (.iload_n 1, 1) := by decide +kernel
theorem dX2_hasPlace_5 : decode cX2_hasPlace 5 = .ok (.aload_n 0, 1) := by decide +kernel
theorem dX2_hasPlace_6 : decode cX2_hasPlace 6 = .ok (.getfield 18, 3) := by decide +kernel
theorem dX2_hasPlace_9 : decode cX2_hasPlace 9 = .ok (.if_icmp .ge 7, 3) := by decide +kernel
theorem dX2_hasPlace_12 : decode cX2_hasPlace 12 = .ok (.iconst 1, 1) := by decide +kernel
theorem dX2_hasPlace_13 : decode cX2_hasPlace 13 = .ok (.goto 4, 3) := by decide +kernel
theorem dX2_hasPlace_16 : decode cX2_hasPlace 16 = .ok (.iconst 0, 1) := by decide +kernel
theorem dX2_hasPlace_17 : decode cX2_hasPlace 17 = .ok (.ireturn, 1) := by decide +kernel
theorem dX2_hasLink_0 : decode cX2_hasLink 0 = .ok (.iload_n 1, 1) := by decide +kernel
theorem dX2_hasLink_1 : decode cX2_hasLink 1 = .ok (.ifCond .lt 15, 3) := by decide +kernel
theorem dX2_hasLink_4 : decode cX2_hasLink 4 = .ok (.iload_n 1, 1) := by decide +kernel
theorem dX2_hasLink_5 : decode cX2_hasLink 5 = .ok (.aload_n 0, 1) := by decide +kernel
theorem dX2_hasLink_6 : decode cX2_hasLink 6 = .ok (.getfield 22, 3) := by decide +kernel
theorem dX2_hasLink_9 : decode cX2_hasLink 9 = .ok (.if_icmp .ge 7, 3) := by decide +kernel
theorem dX2_hasLink_12 : decode cX2_hasLink 12 = .ok (.iconst 1, 1) := by decide +kernel
theorem dX2_hasLink_13 : decode cX2_hasLink 13 = .ok (.goto 4, 3) := by decide +kernel
theorem dX2_hasLink_16 : decode cX2_hasLink 16 = .ok (.iconst 0, 1) := by decide +kernel
theorem dX2_hasLink_17 : decode cX2_hasLink 17 = .ok (.ireturn, 1) := by decide +kernel
theorem dX2_putPlace_0 : decode cX2_putPlace 0 = .ok (.aload_n 0, 1) := by decide +kernel
theorem dX2_putPlace_1 : decode cX2_putPlace 1 = .ok (.dup, 1) := by decide +kernel
theorem dX2_putPlace_2 : decode cX2_putPlace 2 = .ok (.getfield 18, 3) := by decide +kernel
theorem dX2_putPlace_5 : decode cX2_putPlace 5 = .ok (.iconst 1, 1) := by decide +kernel
theorem dX2_putPlace_6 : decode cX2_putPlace 6 = .ok (.iadd, 1) := by decide +kernel
theorem dX2_putPlace_7 : decode cX2_putPlace 7 = .ok (.putfield 18, 3) := by decide +kernel
theorem dX2_putPlace_10 : decode cX2_putPlace 10 = .ok (.aload_n 0, 1) := by decide +kernel
theorem dX2_putPlace_11 : decode cX2_putPlace 11 = .ok (.getfield 18, 3) := by decide +kernel
theorem dX2_putPlace_14 : decode cX2_putPlace 14 = .ok (.iconst 1, 1) := by decide +kernel
theorem dX2_putPlace_15 : decode cX2_putPlace 15 = .ok (.isub, 1) := by decide +kernel
theorem dX2_putPlace_16 : decode cX2_putPlace 16 = .ok (.ireturn, 1) := by decide +kernel
theorem dX2_putLink_0 : decode cX2_putLink 0 = .ok (.aload_n 0, 1) := by decide +kernel
theorem dX2_putLink_1 : decode cX2_putLink 1 = .ok (.getfield 22, 3) := by decide +kernel
theorem dX2_putLink_4 : decode cX2_putLink 4 = .ok (.bipush 20, 2) := by decide +kernel
theorem dX2_putLink_6 : decode cX2_putLink 6 = .ok (.if_icmp .lt 5, 3) := by decide +kernel
theorem dX2_putLink_9 : decode cX2_putLink 9 = .ok (.iconst (-1), 1) := by decide +kernel
theorem dX2_putLink_10 : decode cX2_putLink 10 = .ok (.ireturn, 1) := by decide +kernel
theorem dX2_putLink_11 : decode cX2_putLink 11 = .ok (.aload_n 0, 1) := by decide +kernel
theorem dX2_putLink_12 : decode cX2_putLink 12 = .ok (.getfield 11, 3) := by decide +kernel
theorem dX2_putLink_15 : decode cX2_putLink 15 = .ok (.aload_n 0, 1) := by decide +kernel
theorem dX2_putLink_16 : decode cX2_putLink 16 = .ok (.getfield 22, 3) := by decide +kernel
theorem dX2_putLink_19 : decode cX2_putLink 19 = .ok (.aaload, 1) := by decide +kernel
theorem dX2_putLink_20 : decode cX2_putLink 20 = .ok (.astore 5, 2) := by decide +kernel
theorem dX2_putLink_22 : decode cX2_putLink 22 = .ok (.aload 5, 2) := by decide +kernel
theorem dX2_putLink_24 : decode cX2_putLink 24 = .ok (.iload_n 1, 1) := by decide +kernel
theorem dX2_putLink_25 : decode cX2_putLink 25 = .ok (.putfield 29, 3) := by decide +kernel
theorem dX2_putLink_28 : decode cX2_putLink 28 = .ok (.aload 5, 2) := by decide +kernel
theorem dX2_putLink_30 : decode cX2_putLink 30 = .ok (.iload_n 2, 1) := by decide +kernel
theorem dX2_putLink_31 : decode cX2_putLink 31 = .ok (.putfield 32, 3) := by decide +kernel
theorem dX2_putLink_34 : decode cX2_putLink 34 = .ok (.aload 5, 2) := by decide +kernel
theorem dX2_putLink_36 : decode cX2_putLink 36 = .ok (.iload_n 3, 1) := by decide +kernel
theorem dX2_putLink_37 : decode cX2_putLink 37 = .ok (.putfield 35, 3) := by decide +kernel
theorem dX2_putLink_40 : decode cX2_putLink 40 = .ok (.aload 5, 2) := by decide +kernel
theorem dX2_putLink_42 : decode cX2_putLink 42 = .ok (.iload 4, 2) := by decide +kernel
theorem dX2_putLink_44 : decode cX2_putLink 44 = .ok (.putfield 38, 3) := by decide +kernel
theorem dX2_putLink_47 : decode cX2_putLink 47 = .ok (.aload 5, 2) := by decide +kernel
theorem dX2_putLink_49 : decode cX2_putLink 49 = .ok (.iconst 0, 1) := by decide +kernel
theorem dX2_putLink_50 : decode cX2_putLink 50 = .ok (.putfield 41, 3) := by decide +kernel
theorem dX2_putLink_53 : decode cX2_putLink 53 = .ok (.aload_n 0, 1) := by decide +kernel
theorem dX2_putLink_54 : decode cX2_putLink 54 = .ok (.dup, 1) := by decide +kernel
theorem dX2_putLink_55 : decode cX2_putLink 55 = .ok (.getfield 22, 3) := by decide +kernel
theorem dX2_putLink_58 : decode cX2_putLink 58 = .ok (.iconst 1, 1) := by decide +kernel
theorem dX2_putLink_59 : decode cX2_putLink 59 = .ok (.iadd, 1) := by decide +kernel
theorem dX2_putLink_60 : decode cX2_putLink 60 = .ok (.putfield 22, 3) := by decide +kernel
theorem dX2_putLink_63 : decode cX2_putLink 63 = .ok (.aload_n 0, 1) := by decide +kernel
theorem dX2_putLink_64 : decode cX2_putLink 64 = .ok (.getfield 22, 3) := by decide +kernel
theorem dX2_putLink_67 : decode cX2_putLink 67 = .ok (.iconst 1, 1) := by decide +kernel
theorem dX2_putLink_68 : decode cX2_putLink 68 = .ok (.isub, 1) := by decide +kernel
theorem dX2_putLink_69 : decode cX2_putLink 69 = .ok (.ireturn, 1) := by decide +kernel
theorem dX2_setBlocked_0 : decode cX2_setBlocked 0 = .ok (.aload_n 0, 1) := by decide +kernel
theorem dX2_setBlocked_1 : decode cX2_setBlocked 1 = .ok (.iload_n 1, 1) := by decide +kernel
theorem dX2_setBlocked_2 : decode cX2_setBlocked 2 = .ok (.invokevirtual 45, 3) := by decide +kernel
theorem dX2_setBlocked_5 : decode cX2_setBlocked 5 = .ok (.ifCond .eq 13, 3) := by decide +kernel
theorem dX2_setBlocked_8 : decode cX2_setBlocked 8 = .ok (.aload_n 0, 1) := by decide +kernel
theorem dX2_setBlocked_9 : decode cX2_setBlocked 9 = .ok (.getfield 11, 3) := by decide +kernel
theorem dX2_setBlocked_12 : decode cX2_setBlocked 12 = .ok (.iload_n 1, 1) := by decide +kernel
theorem dX2_setBlocked_13 : decode cX2_setBlocked 13 = .ok (.aaload, 1) := by decide +kernel
theorem dX2_setBlocked_14 : decode cX2_setBlocked 14 = .ok (.iload_n 2, 1) := by decide +kernel
theorem dX2_setBlocked_15 : decode cX2_setBlocked 15 = .ok (.putfield 41, 3) := by decide +kernel
theorem dX2_setBlocked_18 : decode cX2_setBlocked 18 = .ok (.aload_n 0, 1) := by decide +kernel
theorem dX2_setBlocked_19 : decode cX2_setBlocked 19 = .ok (.invokevirtual 49, 3) := by decide +kernel
theorem dX2_setBlocked_22 : decode cX2_setBlocked 22 = .ok (.ireturn, 1) := by decide +kernel
theorem dX2_blockedLinks_0 : decode cX2_blockedLinks 0 = .ok (.iconst 0, 1) := by decide +kernel
theorem dX2_blockedLinks_1 : decode cX2_blockedLinks 1 = .ok (.istore_n 1, 1) := by decide +kernel
theorem dX2_blockedLinks_2 : decode cX2_blockedLinks 2 = .ok (.iconst 0, 1) := by decide +kernel
theorem dX2_blockedLinks_3 : decode cX2_blockedLinks 3 = .ok (.istore_n 2, 1) := by decide +kernel
theorem dX2_blockedLinks_4 : decode cX2_blockedLinks 4 = .ok (.iload_n 2, 1) := by decide +kernel
theorem dX2_blockedLinks_5 : decode cX2_blockedLinks 5 = .ok (.aload_n 0, 1) := by decide +kernel
theorem dX2_blockedLinks_6 : decode cX2_blockedLinks 6 = .ok (.getfield 22, 3) := by decide +kernel
theorem dX2_blockedLinks_9 : decode cX2_blockedLinks 9 = .ok (.if_icmp .ge 24, 3) := by decide +kernel
theorem dX2_blockedLinks_12 : decode cX2_blockedLinks 12 = .ok (.aload_n 0, 1) := by decide +kernel
theorem dX2_blockedLinks_13 : decode cX2_blockedLinks 13 = .ok (.getfield 11, 3) := by decide +kernel
theorem dX2_blockedLinks_16 : decode cX2_blockedLinks 16 = .ok (.iload_n 2, 1) := by decide +kernel
theorem dX2_blockedLinks_17 : decode cX2_blockedLinks 17 = .ok (.aaload, 1) := by decide +kernel
theorem dX2_blockedLinks_18 : decode cX2_blockedLinks 18 = .ok (.getfield 41, 3) := by decide +kernel
theorem dX2_blockedLinks_21 : decode cX2_blockedLinks 21 = .ok (.ifCond .eq 6, 3) := by decide +kernel
theorem dX2_blockedLinks_24 : decode cX2_blockedLinks 24 = .ok (.iinc 1 1, 3) := by decide +kernel
theorem dX2_blockedLinks_27 : decode cX2_blockedLinks 27 = .ok (.iinc 2 1, 3) := by decide +kernel
theorem dX2_blockedLinks_30 : decode cX2_blockedLinks 30 = .ok (.goto (-26), 3) := by decide +kernel
theorem dX2_blockedLinks_33 : decode cX2_blockedLinks 33 = .ok (.iload_n 1, 1) := by decide +kernel
theorem dX2_blockedLinks_34 : decode cX2_blockedLinks 34 = .ok (.ireturn, 1) := by decide +kernel
theorem dX2_linksAt_0 : decode cX2_linksAt 0 = .ok (.iconst 0, 1) := by decide +kernel
theorem dX2_linksAt_1 : decode cX2_linksAt 1 = .ok (.istore_n 2, 1) := by decide +kernel
theorem dX2_linksAt_2 : decode cX2_linksAt 2 = .ok (.iconst 0, 1) := by decide +kernel
theorem dX2_linksAt_3 : decode cX2_linksAt 3 = .ok (.istore_n 3, 1) := by decide +kernel
theorem dX2_linksAt_4 : decode cX2_linksAt 4 = .ok (.iload_n 3, 1) := by decide +kernel
theorem dX2_linksAt_5 : decode cX2_linksAt 5 = .ok (.aload_n 0, 1) := by decide +kernel
theorem dX2_linksAt_6 : decode cX2_linksAt 6 = .ok (.getfield 22, 3) := by decide +kernel
theorem dX2_linksAt_9 : decode cX2_linksAt 9 = .ok (.if_icmp .ge 38, 3) := by decide +kernel
theorem dX2_linksAt_12 : decode cX2_linksAt 12 = .ok (.aload_n 0, 1) := by decide +kernel
theorem dX2_linksAt_13 : decode cX2_linksAt 13 = .ok (.getfield 11, 3) := by decide +kernel
theorem dX2_linksAt_16 : decode cX2_linksAt 16 = .ok (.iload_n 3, 1) := by decide +kernel
theorem dX2_linksAt_17 : decode cX2_linksAt 17 = .ok (.aaload, 1) := by decide +kernel
theorem dX2_linksAt_18 : decode cX2_linksAt 18 = .ok (.getfield 29, 3) := by decide +kernel
theorem dX2_linksAt_21 : decode cX2_linksAt 21 = .ok (.iload_n 1, 1) := by decide +kernel
theorem dX2_linksAt_22 : decode cX2_linksAt 22 = .ok (.if_icmp .eq 16, 3) := by decide +kernel
theorem dX2_linksAt_25 : decode cX2_linksAt 25 = .ok (.aload_n 0, 1) := by decide +kernel
theorem dX2_linksAt_26 : decode cX2_linksAt 26 = .ok (.getfield 11, 3) := by decide +kernel
theorem dX2_linksAt_29 : decode cX2_linksAt 29 = .ok (.iload_n 3, 1) := by decide +kernel
theorem dX2_linksAt_30 : decode cX2_linksAt 30 = .ok (.aaload, 1) := by decide +kernel
theorem dX2_linksAt_31 : decode cX2_linksAt 31 = .ok (.getfield 32, 3) := by decide +kernel
theorem dX2_linksAt_34 : decode cX2_linksAt 34 = .ok (.iload_n 1, 1) := by decide +kernel
theorem dX2_linksAt_35 : decode cX2_linksAt 35 = .ok (.if_icmp .ne 6, 3) := by decide +kernel
theorem dX2_linksAt_38 : decode cX2_linksAt 38 = .ok (.iinc 2 1, 3) := by decide +kernel
theorem dX2_linksAt_41 : decode cX2_linksAt 41 = .ok (.iinc 3 1, 3) := by decide +kernel
theorem dX2_linksAt_44 : decode cX2_linksAt 44 = .ok (.goto (-40), 3) := by decide +kernel
theorem dX2_linksAt_47 : decode cX2_linksAt 47 = .ok (.iload_n 2, 1) := by decide +kernel
theorem dX2_linksAt_48 : decode cX2_linksAt 48 = .ok (.ireturn, 1) := by decide +kernel
theorem dX3_init_0 : decode cX3_init 0 = .ok (.aload_n 0, 1) := by decide +kernel
theorem dX3_init_1 : decode cX3_init 1 = .ok (.invokespecial 3, 3) := by decide +kernel
theorem dX3_init_4 : decode cX3_init 4 = .ok (.return_, 1) := by decide +kernel
theorem dX3_copyFrom_0 : decode cX3_copyFrom 0 = .ok (.aload_n 0, 1) := by decide +kernel
theorem dX3_copyFrom_1 : decode cX3_copyFrom 1 = .ok (.aload_n 1, 1) := by decide +kernel
theorem dX3_copyFrom_2 : decode cX3_copyFrom 2 = .ok (.getfield 9, 3) := by decide +kernel
theorem dX3_copyFrom_5 : decode cX3_copyFrom 5 = .ok (.putfield 9, 3) := by decide +kernel
theorem dX3_copyFrom_8 : decode cX3_copyFrom 8 = .ok (.aload_n 0, 1) := by decide +kernel
theorem dX3_copyFrom_9 : decode cX3_copyFrom 9 = .ok (.aload_n 1, 1) := by decide +kernel
theorem dX3_copyFrom_10 : decode cX3_copyFrom 10 = .ok (.getfield 15, 3) := by decide +kernel
theorem dX3_copyFrom_13 : decode cX3_copyFrom 13 = .ok (.putfield 15, 3) := by decide +kernel
theorem dX3_copyFrom_16 : decode cX3_copyFrom 16 = .ok (.aload_n 0, 1) := by decide +kernel
theorem dX3_copyFrom_17 : decode cX3_copyFrom 17 = .ok (.aload_n 1, 1) := by decide +kernel
theorem dX3_copyFrom_18 : decode cX3_copyFrom 18 = .ok (.getfield 18, 3) := by decide +kernel
theorem dX3_copyFrom_21 : decode cX3_copyFrom 21 = .ok (.putfield 18, 3) := by decide +kernel
theorem dX3_copyFrom_24 : decode cX3_copyFrom 24 = .ok (.aload_n 0, 1) := by decide +kernel
theorem dX3_copyFrom_25 : decode cX3_copyFrom 25 = .ok (.aload_n 1, 1) := by decide +kernel
theorem dX3_copyFrom_26 : decode cX3_copyFrom 26 = .ok (.getfield 21, 3) := by decide +kernel
theorem dX3_copyFrom_29 : decode cX3_copyFrom 29 = .ok (.putfield 21, 3) := by decide +kernel
theorem dX3_copyFrom_32 : decode cX3_copyFrom 32 = .ok (.aload_n 0, 1) := by decide +kernel
theorem dX3_copyFrom_33 : decode cX3_copyFrom 33 = .ok (.aload_n 1, 1) := by decide +kernel
theorem dX3_copyFrom_34 : decode cX3_copyFrom 34 = .ok (.getfield 24, 3) := by decide +kernel
theorem dX3_copyFrom_37 : decode cX3_copyFrom 37 = .ok (.putfield 24, 3) := by decide +kernel
theorem dX3_copyFrom_40 : decode cX3_copyFrom 40 = .ok (.aload_n 0, 1) := by decide +kernel
theorem dX3_copyFrom_41 : decode cX3_copyFrom 41 = .ok (.aload_n 1, 1) := by decide +kernel
theorem dX3_copyFrom_42 : decode cX3_copyFrom 42 = .ok (.getfield 27, 3) := by decide +kernel
theorem dX3_copyFrom_45 : decode cX3_copyFrom 45 = .ok (.putfield 27, 3) := by decide +kernel
theorem dX3_copyFrom_48 : decode cX3_copyFrom 48 = .ok (.aload_n 0, 1) := by decide +kernel
theorem dX3_copyFrom_49 : decode cX3_copyFrom 49 = .ok (.aload_n 1, 1) := by decide +kernel
theorem dX3_copyFrom_50 : decode cX3_copyFrom 50 = .ok (.getfield 30, 3) := by decide +kernel
theorem dX3_copyFrom_53 : decode cX3_copyFrom 53 = .ok (.putfield 30, 3) := by decide +kernel
theorem dX3_copyFrom_56 : decode cX3_copyFrom 56 = .ok (.return_, 1) := by decide +kernel
theorem dX3_isUnderWay_0 : decode cX3_isUnderWay 0 = .ok (.aload_n 0, 1) := by decide +kernel
theorem dX3_isUnderWay_1 : decode cX3_isUnderWay 1 = .ok (.getfield 27, 3) := by decide +kernel
theorem dX3_isUnderWay_4 : decode cX3_isUnderWay 4 = .ok (.iconst (-1), 1) := by decide +kernel
theorem dX3_isUnderWay_5 : decode cX3_isUnderWay 5 = .ok (.if_icmp .eq 7, 3) := by decide +kernel
theorem dX3_isUnderWay_8 : decode cX3_isUnderWay 8 = .ok (.iconst 1, 1) := by decide +kernel
theorem dX3_isUnderWay_9 : decode cX3_isUnderWay 9 = .ok (.goto 4, 3) := by decide +kernel
theorem dX3_isUnderWay_12 : decode cX3_isUnderWay 12 = .ok (.iconst 0, 1) := by decide +kernel
theorem dX3_isUnderWay_13 : decode cX3_isUnderWay 13 = .ok (.ireturn, 1) := by decide +kernel
theorem dX3_writeTo_0 : decode cX3_writeTo 0 = .ok (.aload_n 1, 1) := by decide +kernel
theorem dX3_writeTo_1 : decode cX3_writeTo 1 = .ok (.bipush 35, 2) := by decide +kernel
theorem dX3_writeTo_3 : decode cX3_writeTo 3 = .ok (.invokevirtual 33, 3) := by decide +kernel
theorem dX3_writeTo_6 : decode cX3_writeTo 6 = .ok (.aload_n 0, 1) := by decide +kernel
theorem dX3_writeTo_7 : decode cX3_writeTo 7 = .ok (.getfield 9, 3) := by decide +kernel
theorem dX3_writeTo_10 : decode cX3_writeTo 10 = .ok (.invokevirtual 39, 3) := by decide +kernel
theorem dX3_writeTo_13 : decode cX3_writeTo 13 = .ok (.bipush 32, 2) := by decide +kernel
theorem dX3_writeTo_15 : decode cX3_writeTo 15 = .ok (.invokevirtual 33, 3) := by decide +kernel
theorem dX3_writeTo_18 : decode cX3_writeTo 18 = .ok (.aload_n 0, 1) := by decide +kernel
theorem dX3_writeTo_19 : decode cX3_writeTo 19 = .ok (.getfield 15, 3) := by decide +kernel
theorem dX3_writeTo_22 : decode cX3_writeTo 22 = .ok (.invokevirtual 39, 3) := by decide +kernel
theorem dX3_writeTo_25 : decode cX3_writeTo 25 = .ok (.bipush 42, 2) := by decide +kernel
theorem dX3_writeTo_27 : decode cX3_writeTo 27 = .ok (.invokevirtual 33, 3) := by decide +kernel
theorem dX3_writeTo_30 : decode cX3_writeTo 30 = .ok (.aload_n 0, 1) := by decide +kernel
theorem dX3_writeTo_31 : decode cX3_writeTo 31 = .ok (.getfield 18, 3) := by decide +kernel
theorem dX3_writeTo_34 : decode cX3_writeTo 34 = .ok (.invokevirtual 39, 3) := by decide +kernel
theorem dX3_writeTo_37 : decode cX3_writeTo 37 = .ok (.pop, 1) := by decide +kernel
theorem dX3_writeTo_38 : decode cX3_writeTo 38 = .ok (.aload_n 0, 1) := by decide +kernel
theorem dX3_writeTo_39 : decode cX3_writeTo 39 = .ok (.invokevirtual 42, 3) := by decide +kernel
theorem dX3_writeTo_42 : decode cX3_writeTo 42 = .ok (.ifCond .eq 32, 3) := by decide +kernel
theorem dX3_writeTo_45 : decode cX3_writeTo 45 = .ok (.aload_n 1, 1) := by decide +kernel
theorem dX3_writeTo_46 : decode cX3_writeTo 46 = .ok (.ldc 46, 2) := by decide +kernel
theorem dX3_writeTo_48 : decode cX3_writeTo 48 = .ok (.invokevirtual 48, 3) := by decide +kernel
theorem dX3_writeTo_51 : decode cX3_writeTo 51 = .ok (.aload_n 0, 1) := by decide +kernel
theorem dX3_writeTo_52 : decode cX3_writeTo 52 = .ok (.getfield 27, 3) := by decide +kernel
theorem dX3_writeTo_55 : decode cX3_writeTo 55 = .ok (.invokevirtual 39, 3) := by decide +kernel
theorem dX3_writeTo_58 : decode cX3_writeTo 58 = .ok (.bipush 58, 2) := by decide +kernel
theorem dX3_writeTo_60 : decode cX3_writeTo 60 = .ok (.invokevirtual 33, 3) := by decide +kernel
theorem dX3_writeTo_63 : decode cX3_writeTo 63 = .ok (.aload_n 0, 1) := by decide +kernel
theorem dX3_writeTo_64 : decode cX3_writeTo 64 = .ok (.getfield 30, 3) := by decide +kernel
theorem dX3_writeTo_67 : decode cX3_writeTo 67 = .ok (.invokevirtual 39, 3) := by decide +kernel
theorem dX3_writeTo_70 : decode cX3_writeTo 70 = .ok (.pop, 1) := by decide +kernel
theorem dX3_writeTo_71 : decode cX3_writeTo 71 = .ok (.goto 17, 3) := by decide +kernel
theorem dX3_writeTo_74 : decode cX3_writeTo 74 = .ok (.aload_n 1, 1) := by decide +kernel
theorem dX3_writeTo_75 : decode cX3_writeTo 75 = .ok (.ldc 51, 2) := by decide +kernel
theorem dX3_writeTo_77 : decode cX3_writeTo 77 = .ok (.invokevirtual 48, 3) := by decide +kernel
theorem dX3_writeTo_80 : decode cX3_writeTo 80 = .ok (.aload_n 0, 1) := by decide +kernel
theorem dX3_writeTo_81 : decode cX3_writeTo 81 = .ok (.getfield 24, 3) := by decide +kernel
theorem dX3_writeTo_84 : decode cX3_writeTo 84 = .ok (.invokevirtual 39, 3) := by decide +kernel
theorem dX3_writeTo_87 : decode cX3_writeTo 87 = .ok (.pop, 1) := by decide +kernel
theorem dX3_writeTo_88 : decode cX3_writeTo 88 = .ok (.aload_n 1, 1) := by decide +kernel
theorem dX3_writeTo_89 : decode cX3_writeTo 89 = .ok (.ldc 53, 2) := by decide +kernel
theorem dX3_writeTo_91 : decode cX3_writeTo 91 = .ok (.invokevirtual 48, 3) := by decide +kernel
theorem dX3_writeTo_94 : decode cX3_writeTo 94 = .ok (.aload_n 0, 1) := by decide +kernel
theorem dX3_writeTo_95 : decode cX3_writeTo 95 = .ok (.getfield 21, 3) := by decide +kernel
theorem dX3_writeTo_98 : decode cX3_writeTo 98 = .ok (.invokevirtual 39, 3) := by decide +kernel
theorem dX3_writeTo_101 : decode cX3_writeTo 101 = .ok (.pop, 1) := by decide +kernel
theorem dX3_writeTo_102 : decode cX3_writeTo 102 = .ok (.return_, 1) := by decide +kernel
theorem dX4_init_0 : decode cX4_init 0 = .ok (.aload_n 0, 1) := by decide +kernel
theorem dX4_init_1 : decode cX4_init 1 = .ok (.invokespecial 3, 3) := by decide +kernel
theorem dX4_init_4 : decode cX4_init 4 = .ok (.aload_n 0, 1) := by decide +kernel
theorem dX4_init_5 : decode cX4_init 5 = .ok (.bipush 60, 2) := by decide +kernel
theorem dX4_init_7 : decode cX4_init 7 = .ok (.newarray .char, 2) := by decide +kernel
theorem dX4_init_9 : decode cX4_init 9 = .ok (.putfield 9, 3) := by decide +kernel
theorem dX4_init_12 : decode cX4_init 12 = .ok (.aload_n 0, 1) := by decide +kernel
theorem dX4_init_13 : decode cX4_init 13 = .ok (.bipush 10, 2) := by decide +kernel
theorem dX4_init_15 : decode cX4_init 15 = .ok (.newarray .int, 2) := by decide +kernel
theorem dX4_init_17 : decode cX4_init 17 = .ok (.putfield 15, 3) := by decide +kernel
theorem dX4_init_20 : decode cX4_init 20 = .ok (.aload_n 0, 1) := by decide +kernel
theorem dX4_init_21 : decode cX4_init 21 = .ok (.bipush 10, 2) := by decide +kernel
theorem dX4_init_23 : decode cX4_init 23 = .ok (.iconst 4, 1) := by decide +kernel
theorem dX4_init_24 : decode cX4_init 24 = .ok (.multianewarray 19 2, 4) := by decide +kernel
theorem dX4_init_28 : decode cX4_init 28 = .ok (.putfield 21, 3) := by decide +kernel
theorem dX4_init_31 : decode cX4_init 31 = .ok (.return_, 1) := by decide +kernel
theorem dX4_take_0 : decode cX4_take 0 = .ok (.aload_n 0, 1) := by decide +kernel
theorem dX4_take_1 : decode cX4_take 1 = .ok (.getfield 24, 3) := by decide +kernel
theorem dX4_take_4 : decode cX4_take 4 = .ok (.bipush 60, 2) := by decide +kernel
theorem dX4_take_6 : decode cX4_take 6 = .ok (.if_icmp .ge 23, 3) := by decide +kernel
theorem dX4_take_9 : decode cX4_take 9 = .ok (.aload_n 0, 1) := by decide +kernel
theorem dX4_take_10 : decode cX4_take 10 = .ok (.getfield 9, 3) := by decide +kernel
theorem dX4_take_13 : decode cX4_take 13 = .ok (.aload_n 0, 1) := by decide +kernel
theorem dX4_take_14 : decode cX4_take 14 = .ok (.getfield 24, 3) := by decide +kernel
theorem dX4_take_17 : decode cX4_take 17 = .ok (.iload_n 1, 1) := by decide +kernel
theorem dX4_take_18 : decode cX4_take 18 = .ok (.castore, 1) := by decide +kernel
theorem dX4_take_19 : decode cX4_take 19 = .ok (.aload_n 0, 1) := by decide +kernel
theorem dX4_take_20 : decode cX4_take 20 = .ok (.dup, 1) := by decide +kernel
theorem dX4_take_21 : decode cX4_take 21 = .ok (.getfield 24, 3) := by decide +kernel
theorem dX4_take_24 : decode cX4_take 24 = .ok (.iconst 1, 1) := by decide +kernel
theorem dX4_take_25 : decode cX4_take 25 = .ok (.iadd, 1) := by decide +kernel
theorem dX4_take_26 : decode cX4_take 26 = .ok (.putfield 24, 3) := by decide +kernel
theorem dX4_take_29 : decode cX4_take 29 = .ok (.aload_n 0, 1) := by decide +kernel
theorem dX4_take_30 : decode cX4_take 30 = .ok (.getfield 24, 3) := by decide +kernel
theorem dX4_take_33 : decode cX4_take 33 = .ok (.ireturn, 1) := by decide +kernel
theorem dX4_parse_0 : decode cX4_parse 0 = .ok (.aload_n 0, 1) := by decide +kernel
theorem dX4_parse_1 : decode cX4_parse 1 = .ok (.iconst 0, 1) := by decide +kernel
theorem dX4_parse_2 : decode cX4_parse 2 = .ok (.putfield 28, 3) := by decide +kernel
theorem dX4_parse_5 : decode cX4_parse 5 = .ok (.aload_n 0, 1) := by decide +kernel
theorem dX4_parse_6 : decode cX4_parse 6 = .ok (.iconst 0, 1) := by decide +kernel
theorem dX4_parse_7 : decode cX4_parse 7 = .ok (.putfield 31, 3) := by decide +kernel
theorem dX4_parse_10 : decode cX4_parse 10 = .ok (.iconst 0, 1) := by decide +kernel
theorem dX4_parse_11 : decode cX4_parse 11 = .ok (.istore_n 1, 1) := by decide +kernel
theorem dX4_parse_12 : decode cX4_parse 12 = .ok (.iconst 0, 1) := by decide +kernel
theorem dX4_parse_13 : decode cX4_parse 13 = .ok (.istore_n 2, 1) := by decide +kernel
theorem dX4_parse_14 : decode cX4_parse 14 = .ok (.iload_n 2, 1) := by decide +kernel
theorem dX4_parse_15 : decode cX4_parse 15 = .ok (.bipush 10, 2) := by decide +kernel
theorem dX4_parse_17 : decode cX4_parse 17 = .ok (.if_icmp .gt 36, 3) := by decide +kernel
theorem dX4_parse_20 : decode cX4_parse 20 = .ok (.aload_n 0, 1) := by decide +kernel
theorem dX4_parse_21 : decode cX4_parse 21 = .ok (.iload_n 1, 1) := by decide +kernel
theorem dX4_parse_22 : decode cX4_parse 22 = .ok (.invokevirtual 34, 3) := by decide +kernel
theorem dX4_parse_25 : decode cX4_parse 25 = .ok (.istore_n 3, 1) := by decide +kernel
theorem dX4_parse_26 : decode cX4_parse 26 = .ok (.iload_n 3, 1) := by decide +kernel
theorem dX4_parse_27 : decode cX4_parse 27 = .ok (.iconst (-1), 1) := by decide +kernel
theorem dX4_parse_28 : decode cX4_parse 28 = .ok (.if_icmp .ne 5, 3) := by decide +kernel
theorem dX4_parse_31 : decode cX4_parse 31 = .ok (.iconst 0, 1) := by decide +kernel
theorem dX4_parse_32 : decode cX4_parse 32 = .ok (.ireturn, 1) := by decide +kernel
theorem dX4_parse_33 : decode cX4_parse 33 = .ok (.iload_n 3, 1) := by decide +kernel
theorem dX4_parse_34 : decode cX4_parse 34 = .ok (.aload_n 0, 1) := by decide +kernel
theorem dX4_parse_35 : decode cX4_parse 35 = .ok (.getfield 24, 3) := by decide +kernel
theorem dX4_parse_38 : decode cX4_parse 38 = .ok (.if_icmp .ne 5, 3) := by decide +kernel
theorem dX4_parse_41 : decode cX4_parse 41 = .ok (.iconst 1, 1) := by decide +kernel
theorem dX4_parse_42 : decode cX4_parse 42 = .ok (.ireturn, 1) := by decide +kernel
theorem dX4_parse_43 : decode cX4_parse 43 = .ok (.iload_n 3, 1) := by decide +kernel
theorem dX4_parse_44 : decode cX4_parse 44 = .ok (.iconst 1, 1) := by decide +kernel
theorem dX4_parse_45 : decode cX4_parse 45 = .ok (.iadd, 1) := by decide +kernel
theorem dX4_parse_46 : decode cX4_parse 46 = .ok (.istore_n 1, 1) := by decide +kernel
theorem dX4_parse_47 : decode cX4_parse 47 = .ok (.iinc 2 1, 3) := by decide +kernel
theorem dX4_parse_50 : decode cX4_parse 50 = .ok (.goto (-36), 3) := by decide +kernel
theorem dX4_parse_53 : decode cX4_parse 53 = .ok (.iconst 0, 1) := by decide +kernel
theorem dX4_parse_54 : decode cX4_parse 54 = .ok (.ireturn, 1) := by decide +kernel
theorem dX4_executeOn_0 : decode cX4_executeOn 0 = .ok (.iconst 0, 1) := by decide +kernel
theorem dX4_executeOn_1 : decode cX4_executeOn 1 = .ok (.istore_n 2, 1) := by decide +kernel
theorem dX4_executeOn_2 : decode cX4_executeOn 2 = .ok (.iload_n 2, 1) := by decide +kernel
theorem dX4_executeOn_3 : decode cX4_executeOn 3 = .ok (.aload_n 0, 1) := by decide +kernel
theorem dX4_executeOn_4 : decode cX4_executeOn 4 = .ok (.getfield 28, 3) := by decide +kernel
theorem dX4_executeOn_7 : decode cX4_executeOn 7 = .ok (.if_icmp .ge 66, 3) := by decide +kernel
theorem dX4_executeOn_10 : decode cX4_executeOn 10 = .ok (.aload_n 0, 1) := by decide +kernel
theorem dX4_executeOn_11 : decode cX4_executeOn 11 = .ok (.getfield 21, 3) := by decide +kernel
theorem dX4_executeOn_14 : decode cX4_executeOn 14 = .ok (.iload_n 2, 1) := by decide +kernel
theorem dX4_executeOn_15 : decode cX4_executeOn 15 = .ok (.aaload, 1) := by decide +kernel
theorem dX4_executeOn_16 : decode cX4_executeOn 16 = .ok (.astore_n 3, 1) := by decide +kernel
theorem dX4_executeOn_17 : decode cX4_executeOn 17 = .ok (.aload_n 1, 1) := by decide +kernel
theorem dX4_executeOn_18 : decode cX4_executeOn 18 = .ok (.aload_n 0, 1) := by decide +kernel
theorem dX4_executeOn_19 : decode cX4_executeOn 19 = .ok (.getfield 15, 3) := by decide +kernel
theorem dX4_executeOn_22 : decode cX4_executeOn 22 = .ok (.iload_n 2, 1) := by decide +kernel
theorem dX4_executeOn_23 : decode cX4_executeOn 23 = .ok (.iaload, 1) := by decide +kernel
theorem dX4_executeOn_24 : decode cX4_executeOn 24 = .ok (.aload_n 3, 1) := by decide +kernel
theorem dX4_executeOn_25 : decode cX4_executeOn 25 = .ok (.iconst 0, 1) := by decide +kernel
theorem dX4_executeOn_26 : decode cX4_executeOn 26 = .ok (.iaload, 1) := by decide +kernel
theorem dX4_executeOn_27 : decode cX4_executeOn 27 = .ok (.aload_n 3, 1) := by decide +kernel
theorem dX4_executeOn_28 : decode cX4_executeOn 28 = .ok (.iconst 1, 1) := by decide +kernel
theorem dX4_executeOn_29 : decode cX4_executeOn 29 = .ok (.iaload, 1) := by decide +kernel
theorem dX4_executeOn_30 : decode cX4_executeOn 30 = .ok (.aload_n 3, 1) := by decide +kernel
theorem dX4_executeOn_31 : decode cX4_executeOn 31 = .ok (.iconst 2, 1) := by decide +kernel
theorem dX4_executeOn_32 : decode cX4_executeOn 32 = .ok (.iaload, 1) := by decide +kernel
theorem dX4_executeOn_33 : decode cX4_executeOn 33 = .ok (.aload_n 3, 1) := by decide +kernel
theorem dX4_executeOn_34 : decode cX4_executeOn 34 = .ok (.iconst 3, 1) := by decide +kernel
theorem dX4_executeOn_35 : decode cX4_executeOn 35 = .ok (.iaload, 1) := by decide +kernel
theorem dX4_executeOn_36 : decode cX4_executeOn 36 = .ok (.invokevirtual 38, 3) := by decide +kernel
theorem dX4_executeOn_39 : decode cX4_executeOn 39 = .ok (.ifCond .eq 5, 3) := by decide +kernel
theorem dX4_executeOn_42 : decode cX4_executeOn 42 = .ok (.iload_n 2, 1) := by decide +kernel
theorem dX4_executeOn_43 : decode cX4_executeOn 43 = .ok (.ireturn, 1) := by decide +kernel
theorem dX4_executeOn_44 : decode cX4_executeOn 44 = .ok (.aload_n 1, 1) := by decide +kernel
theorem dX4_executeOn_45 : decode cX4_executeOn 45 = .ok (.aload_n 0, 1) := by decide +kernel
theorem dX4_executeOn_46 : decode cX4_executeOn 46 = .ok (.getfield 15, 3) := by decide +kernel
theorem dX4_executeOn_49 : decode cX4_executeOn 49 = .ok (.iload_n 2, 1) := by decide +kernel
theorem dX4_executeOn_50 : decode cX4_executeOn 50 = .ok (.iaload, 1) := by decide +kernel
theorem dX4_executeOn_51 : decode cX4_executeOn 51 = .ok (.aload_n 3, 1) := by decide +kernel
theorem dX4_executeOn_52 : decode cX4_executeOn 52 = .ok (.iconst 0, 1) := by decide +kernel
theorem dX4_executeOn_53 : decode cX4_executeOn 53 = .ok (.iaload, 1) := by decide +kernel
theorem dX4_executeOn_54 : decode cX4_executeOn 54 = .ok (.aload_n 3, 1) := by decide +kernel
theorem dX4_executeOn_55 : decode cX4_executeOn 55 = .ok (.iconst 1, 1) := by decide +kernel
theorem dX4_executeOn_56 : decode cX4_executeOn 56 = .ok (.iaload, 1) := by decide +kernel
theorem dX4_executeOn_57 : decode cX4_executeOn 57 = .ok (.aload_n 3, 1) := by decide +kernel
theorem dX4_executeOn_58 : decode cX4_executeOn 58 = .ok (.iconst 2, 1) := by decide +kernel
theorem dX4_executeOn_59 : decode cX4_executeOn 59 = .ok (.iaload, 1) := by decide +kernel
theorem dX4_executeOn_60 : decode cX4_executeOn 60 = .ok (.aload_n 3, 1) := by decide +kernel
theorem dX4_executeOn_61 : decode cX4_executeOn 61 = .ok (.iconst 3, 1) := by decide +kernel
theorem dX4_executeOn_62 : decode cX4_executeOn 62 = .ok (.iaload, 1) := by decide +kernel
theorem dX4_executeOn_63 : decode cX4_executeOn 63 = .ok (.invokevirtual 44, 3) := by decide +kernel
theorem dX4_executeOn_66 : decode cX4_executeOn 66 = .ok (.pop, 1) := by decide +kernel
theorem dX4_executeOn_67 : decode cX4_executeOn 67 = .ok (.iinc 2 1, 3) := by decide +kernel
theorem dX4_executeOn_70 : decode cX4_executeOn 70 = .ok (.goto (-68), 3) := by decide +kernel
theorem dX4_executeOn_73 : decode cX4_executeOn 73 = .ok (.aload_n 0, 1) := by decide +kernel
theorem dX4_executeOn_74 : decode cX4_executeOn 74 = .ok (.getfield 28, 3) := by decide +kernel
theorem dX4_executeOn_77 : decode cX4_executeOn 77 = .ok (.ireturn, 1) := by decide +kernel
theorem dX4_endOfCommand_0 : decode cX4_endOfCommand 0 = .ok (.iconst 0, 1) := by decide +kernel
theorem dX4_endOfCommand_1 : decode cX4_endOfCommand 1 = .ok (.istore_n 2, 1) := by decide +kernel
theorem dX4_endOfCommand_2 : decode cX4_endOfCommand 2 = .ok (.iload_n 2, 1) := by decide +kernel
theorem dX4_endOfCommand_3 : decode cX4_endOfCommand 3 = .ok (.bipush 11, 2) := by decide +kernel
theorem dX4_endOfCommand_5 : decode cX4_endOfCommand 5 = .ok (.if_icmp .ge 86, 3) := by decide +kernel
theorem dX4_endOfCommand_8 : decode cX4_endOfCommand 8 = .ok (.aload_n 0, 1) := by decide +kernel
theorem dX4_endOfCommand_9 : decode cX4_endOfCommand 9 = .ok (.iload_n 2, 1) := by decide +kernel
theorem dX4_endOfCommand_10 : decode cX4_endOfCommand 10 = .ok (.invokestatic 47, 3) := by decide +kernel
theorem dX4_endOfCommand_13 : decode cX4_endOfCommand 13 = .ok (.iload_n 1, 1) := by decide +kernel
theorem dX4_endOfCommand_14 : decode cX4_endOfCommand 14 = .ok (.invokevirtual 51, 3) := by decide +kernel
theorem dX4_endOfCommand_17 : decode cX4_endOfCommand 17 = .ok (.istore_n 3, 1) := by decide +kernel
theorem dX4_endOfCommand_18 : decode cX4_endOfCommand 18 = .ok (.iload_n 3, 1) := by decide +kernel
theorem dX4_endOfCommand_19 : decode cX4_endOfCommand 19 = .ok (.iconst (-1), 1) := by decide +kernel
theorem dX4_endOfCommand_20 : decode cX4_endOfCommand 20 = .ok (.if_icmp .eq 65, 3) := by decide +kernel
theorem dX4_endOfCommand_23 : decode cX4_endOfCommand 23 = .ok (.aload_n 0, 1) := by decide +kernel
theorem dX4_endOfCommand_24 : decode cX4_endOfCommand 24 = .ok (.aload_n 0, 1) := by decide +kernel
theorem dX4_endOfCommand_25 : decode cX4_endOfCommand 25 = .ok (.getfield 31, 3) := by decide +kernel
theorem dX4_endOfCommand_28 : decode cX4_endOfCommand 28 = .ok (.iload_n 3, 1) := by decide +kernel
theorem dX4_endOfCommand_29 : decode cX4_endOfCommand 29 = .ok (.invokestatic 55, 3) := by decide +kernel
theorem dX4_endOfCommand_32 : decode cX4_endOfCommand 32 = .ok (.putfield 31, 3) := by decide +kernel
theorem dX4_endOfCommand_35 : decode cX4_endOfCommand 35 = .ok (.aload_n 0, 1) := by decide +kernel
theorem dX4_endOfCommand_36 : decode cX4_endOfCommand 36 = .ok (.getfield 28, 3) := by decide +kernel
theorem dX4_endOfCommand_39 : decode cX4_endOfCommand 39 = .ok (.bipush 10, 2) := by decide +kernel
theorem dX4_endOfCommand_41 : decode cX4_endOfCommand 41 = .ok (.if_icmp .ge 44, 3) := by decide +kernel
theorem dX4_endOfCommand_44 : decode cX4_endOfCommand 44 = .ok (.iload_n 3, 1) := by decide +kernel
theorem dX4_endOfCommand_45 : decode cX4_endOfCommand 45 = .ok (.aload_n 0, 1) := by decide +kernel
theorem dX4_endOfCommand_46 : decode cX4_endOfCommand 46 = .ok (.getfield 24, 3) := by decide +kernel
theorem dX4_endOfCommand_49 : decode cX4_endOfCommand 49 = .ok (.if_icmp .eq 14, 3) := by decide +kernel
theorem dX4_endOfCommand_52 : decode cX4_endOfCommand 52 = .ok (.aload_n 0, 1) := by decide +kernel
theorem dX4_endOfCommand_53 : decode cX4_endOfCommand 53 = .ok (.getfield 9, 3) := by decide +kernel
theorem dX4_endOfCommand_56 : decode cX4_endOfCommand 56 = .ok (.iload_n 3, 1) := by decide +kernel
theorem dX4_endOfCommand_57 : decode cX4_endOfCommand 57 = .ok (.caload, 1) := by decide +kernel
theorem dX4_endOfCommand_58 : decode cX4_endOfCommand 58 = .ok (.bipush 59, 2) := by decide +kernel
theorem dX4_endOfCommand_60 : decode cX4_endOfCommand 60 = .ok (.if_icmp .ne 25, 3) := by decide +kernel
theorem dX4_endOfCommand_63 : decode cX4_endOfCommand 63 = .ok (.aload_n 0, 1) := by decide +kernel
theorem dX4_endOfCommand_64 : decode cX4_endOfCommand 64 = .ok (.getfield 15, 3) := by decide +kernel
theorem dX4_endOfCommand_67 : decode cX4_endOfCommand 67 = .ok (.aload_n 0, 1) := by decide +kernel
theorem dX4_endOfCommand_68 : decode cX4_endOfCommand 68 = .ok (.getfield 28, 3) := by decide +kernel
theorem dX4_endOfCommand_71 : decode cX4_endOfCommand 71 = .ok (.iload_n 2, 1) := by decide +kernel
theorem dX4_endOfCommand_72 : decode cX4_endOfCommand 72 = .ok (.iastore, 1) := by decide +kernel
theorem dX4_endOfCommand_73 : decode cX4_endOfCommand 73 = .ok (.aload_n 0, 1) := by decide +kernel
theorem dX4_endOfCommand_74 : decode cX4_endOfCommand 74 = .ok (.dup, 1) := by decide +kernel
theorem dX4_endOfCommand_75 : decode cX4_endOfCommand 75 = .ok (.getfield 28, 3) := by decide +kernel
theorem dX4_endOfCommand_78 : decode cX4_endOfCommand 78 = .ok (.iconst 1, 1) := by decide +kernel
theorem dX4_endOfCommand_79 : decode cX4_endOfCommand 79 = .ok (.iadd, 1) := by decide +kernel
theorem dX4_endOfCommand_80 : decode cX4_endOfCommand 80 = .ok (.putfield 28, 3) := by decide +kernel
theorem dX4_endOfCommand_83 : decode cX4_endOfCommand 83 = .ok (.iload_n 3, 1) := by decide +kernel
theorem dX4_endOfCommand_84 : decode cX4_endOfCommand 84 = .ok (.ireturn, 1) := by decide +kernel
theorem dX4_endOfCommand_85 : decode cX4_endOfCommand 85 = .ok (.iinc 2 1, 3) := by decide +kernel
theorem dX4_endOfCommand_88 : decode cX4_endOfCommand 88 = .ok (.goto (-86), 3) := by decide +kernel
theorem dX4_endOfCommand_91 : decode cX4_endOfCommand 91 = .ok (.iconst (-1), 1) := by decide +kernel
theorem dX4_endOfCommand_92 : decode cX4_endOfCommand 92 = .ok (.ireturn, 1) := by decide +kernel
theorem dX4_formOf_0 : decode cX4_formOf 0 = .ok (.iload_n 0, 1) := by decide +kernel
theorem dX4_formOf_1 : decode cX4_formOf 1 = .ok (.tableswitch 85 0 9 #[55, 58, 61, 64, 67, 70, 73, 76, 79, 82], 55) := by decide +kernel
theorem dX4_formOf_56 : decode cX4_formOf 56 = .ok (.ldc 61, 2) := by decide +kernel
theorem dX4_formOf_58 : decode cX4_formOf 58 = .ok (.areturn, 1) := by decide +kernel
theorem dX4_formOf_59 : decode cX4_formOf 59 = .ok (.ldc 63, 2) := by decide +kernel
theorem dX4_formOf_61 : decode cX4_formOf 61 = .ok (.areturn, 1) := by decide +kernel
theorem dX4_formOf_62 : decode cX4_formOf 62 = .ok (.ldc 65, 2) := by decide +kernel
theorem dX4_formOf_64 : decode cX4_formOf 64 = .ok (.areturn, 1) := by decide +kernel
theorem dX4_formOf_65 : decode cX4_formOf 65 = .ok (.ldc 67, 2) := by decide +kernel
theorem dX4_formOf_67 : decode cX4_formOf 67 = .ok (.areturn, 1) := by decide +kernel
theorem dX4_formOf_68 : decode cX4_formOf 68 = .ok (.ldc 69, 2) := by decide +kernel
theorem dX4_formOf_70 : decode cX4_formOf 70 = .ok (.areturn, 1) := by decide +kernel
theorem dX4_formOf_71 : decode cX4_formOf 71 = .ok (.ldc 71, 2) := by decide +kernel
theorem dX4_formOf_73 : decode cX4_formOf 73 = .ok (.areturn, 1) := by decide +kernel
theorem dX4_formOf_74 : decode cX4_formOf 74 = .ok (.ldc 73, 2) := by decide +kernel
theorem dX4_formOf_76 : decode cX4_formOf 76 = .ok (.areturn, 1) := by decide +kernel
theorem dX4_formOf_77 : decode cX4_formOf 77 = .ok (.ldc 75, 2) := by decide +kernel
theorem dX4_formOf_79 : decode cX4_formOf 79 = .ok (.areturn, 1) := by decide +kernel
theorem dX4_formOf_80 : decode cX4_formOf 80 = .ok (.ldc 77, 2) := by decide +kernel
theorem dX4_formOf_82 : decode cX4_formOf 82 = .ok (.areturn, 1) := by decide +kernel
theorem dX4_formOf_83 : decode cX4_formOf 83 = .ok (.ldc 79, 2) := by decide +kernel
theorem dX4_formOf_85 : decode cX4_formOf 85 = .ok (.areturn, 1) := by decide +kernel
theorem dX4_formOf_86 : decode cX4_formOf 86 = .ok (.ldc 81, 2) := by decide +kernel
theorem dX4_formOf_88 : decode cX4_formOf 88 = .ok (.areturn, 1) := by decide +kernel
theorem dX4_endOfForm_0 : decode cX4_endOfForm 0 = .ok (.iload_n 2, 1) := by decide +kernel
theorem dX4_endOfForm_1 : decode cX4_endOfForm 1 = .ok (.istore_n 3, 1) := by decide +kernel
theorem dX4_endOfForm_2 : decode cX4_endOfForm 2 = .ok (.iconst 0, 1) := by decide +kernel
theorem dX4_endOfForm_3 : decode cX4_endOfForm 3 = .ok (.istore 4, 2) := by decide +kernel
theorem dX4_endOfForm_5 : decode cX4_endOfForm 5 = .ok (.iconst 0, 1) := by decide +kernel
theorem dX4_endOfForm_6 : decode cX4_endOfForm 6 = .ok (.istore 5, 2) := by decide +kernel
theorem dX4_endOfForm_8 : decode cX4_endOfForm 8 = .ok (.iload 5, 2) := by decide +kernel
theorem dX4_endOfForm_10 : decode cX4_endOfForm 10 = .ok (.aload_n 1, 1) := by decide +kernel
theorem dX4_endOfForm_11 : decode cX4_endOfForm 11 = .ok (.invokevirtual 83, 3) := by decide +kernel
theorem dX4_endOfForm_14 : decode cX4_endOfForm 14 = .ok (.if_icmp .ge 116, 3) := by decide +kernel
theorem dX4_endOfForm_17 : decode cX4_endOfForm 17 = .ok (.aload_n 1, 1) := by decide +kernel
theorem dX4_endOfForm_18 : decode cX4_endOfForm 18 = .ok (.iload 5, 2) := by decide +kernel
theorem dX4_endOfForm_20 : decode cX4_endOfForm 20 = .ok (.invokevirtual 88, 3) := by decide +kernel
theorem dX4_endOfForm_23 : decode cX4_endOfForm 23 = .ok (.istore 6, 2) := by decide +kernel
theorem dX4_endOfForm_25 : decode cX4_endOfForm 25 = .ok (.iload 6, 2) := by decide +kernel
theorem dX4_endOfForm_27 : decode cX4_endOfForm 27 = .ok (.bipush 57, 2) := by decide +kernel
theorem dX4_endOfForm_29 : decode cX4_endOfForm 29 = .ok (.if_icmp .eq 10, 3) := by decide +kernel
theorem dX4_endOfForm_32 : decode cX4_endOfForm 32 = .ok (.iload 6, 2) := by decide +kernel
theorem dX4_endOfForm_34 : decode cX4_endOfForm 34 = .ok (.bipush 35, 2) := by decide +kernel
theorem dX4_endOfForm_36 : decode cX4_endOfForm 36 = .ok (.if_icmp .ne 37, 3) := by decide +kernel
theorem dX4_endOfForm_39 : decode cX4_endOfForm 39 = .ok (.aload_n 0, 1) := by decide +kernel
theorem dX4_endOfForm_40 : decode cX4_endOfForm 40 = .ok (.iload_n 3, 1) := by decide +kernel
theorem dX4_endOfForm_41 : decode cX4_endOfForm 41 = .ok (.iload 6, 2) := by decide +kernel
theorem dX4_endOfForm_43 : decode cX4_endOfForm 43 = .ok (.bipush 57, 2) := by decide +kernel
theorem dX4_endOfForm_45 : decode cX4_endOfForm 45 = .ok (.if_icmp .ne 7, 3) := by decide +kernel
theorem dX4_endOfForm_48 : decode cX4_endOfForm 48 = .ok (.iconst 1, 1) := by decide +kernel
theorem dX4_endOfForm_49 : decode cX4_endOfForm 49 = .ok (.goto 4, 3) := by decide +kernel
theorem dX4_endOfForm_52 : decode cX4_endOfForm 52 = .ok (.iconst 3, 1) := by decide +kernel
theorem dX4_endOfForm_53 : decode cX4_endOfForm 53 = .ok (.invokevirtual 92, 3) := by decide +kernel
theorem dX4_endOfForm_56 : decode cX4_endOfForm 56 = .ok (.istore 7, 2) := by decide +kernel
theorem dX4_endOfForm_58 : decode cX4_endOfForm 58 = .ok (.aload_n 0, 1) := by decide +kernel
theorem dX4_endOfForm_59 : decode cX4_endOfForm 59 = .ok (.iload 4, 2) := by decide +kernel
theorem dX4_endOfForm_61 : decode cX4_endOfForm 61 = .ok (.iload_n 3, 1) := by decide +kernel
theorem dX4_endOfForm_62 : decode cX4_endOfForm 62 = .ok (.iload 7, 2) := by decide +kernel
theorem dX4_endOfForm_64 : decode cX4_endOfForm 64 = .ok (.invokevirtual 95, 3) := by decide +kernel
theorem dX4_endOfForm_67 : decode cX4_endOfForm 67 = .ok (.iinc 4 1, 3) := by decide +kernel
theorem dX4_endOfForm_70 : decode cX4_endOfForm 70 = .ok (.goto 31, 3) := by decide +kernel
theorem dX4_endOfForm_73 : decode cX4_endOfForm 73 = .ok (.iload_n 3, 1) := by decide +kernel
theorem dX4_endOfForm_74 : decode cX4_endOfForm 74 = .ok (.aload_n 0, 1) := by decide +kernel
theorem dX4_endOfForm_75 : decode cX4_endOfForm 75 = .ok (.getfield 24, 3) := by decide +kernel
theorem dX4_endOfForm_78 : decode cX4_endOfForm 78 = .ok (.if_icmp .ge 20, 3) := by decide +kernel
theorem dX4_endOfForm_81 : decode cX4_endOfForm 81 = .ok (.aload_n 0, 1) := by decide +kernel
theorem dX4_endOfForm_82 : decode cX4_endOfForm 82 = .ok (.getfield 9, 3) := by decide +kernel
theorem dX4_endOfForm_85 : decode cX4_endOfForm 85 = .ok (.iload_n 3, 1) := by decide +kernel
theorem dX4_endOfForm_86 : decode cX4_endOfForm 86 = .ok (.caload, 1) := by decide +kernel
theorem dX4_endOfForm_87 : decode cX4_endOfForm 87 = .ok (.iload 6, 2) := by decide +kernel
theorem dX4_endOfForm_89 : decode cX4_endOfForm 89 = .ok (.if_icmp .ne 9, 3) := by decide +kernel
theorem dX4_endOfForm_92 : decode cX4_endOfForm 92 = .ok (.iload_n 3, 1) := by decide +kernel
theorem dX4_endOfForm_93 : decode cX4_endOfForm 93 = .ok (.iconst 1, 1) := by decide +kernel
theorem dX4_endOfForm_94 : decode cX4_endOfForm 94 = .ok (.iadd, 1) := by decide +kernel
theorem dX4_endOfForm_95 : decode cX4_endOfForm 95 = .ok (.goto 4, 3) := by decide +kernel
theorem dX4_endOfForm_98 : decode cX4_endOfForm 98 = .ok (.iload_n 3, 1) := by decide +kernel
theorem dX4_endOfForm_99 : decode cX4_endOfForm 99 = .ok (.istore 7, 2) := by decide +kernel
theorem dX4_endOfForm_101 : decode cX4_endOfForm 101 = .ok (.iload 7, 2) := by decide +kernel
theorem dX4_endOfForm_103 : decode cX4_endOfForm 103 = .ok (.iload_n 3, 1) := by decide +kernel
theorem dX4_endOfForm_104 : decode cX4_endOfForm 104 = .ok (.if_icmp .ne 17, 3) := by decide +kernel
theorem dX4_endOfForm_107 : decode cX4_endOfForm 107 = .ok (.aload_n 0, 1) := by decide +kernel
theorem dX4_endOfForm_108 : decode cX4_endOfForm 108 = .ok (.aload_n 0, 1) := by decide +kernel
theorem dX4_endOfForm_109 : decode cX4_endOfForm 109 = .ok (.getfield 31, 3) := by decide +kernel
theorem dX4_endOfForm_112 : decode cX4_endOfForm 112 = .ok (.iload_n 3, 1) := by decide +kernel
theorem dX4_endOfForm_113 : decode cX4_endOfForm 113 = .ok (.invokestatic 55, 3) := by decide +kernel
theorem dX4_endOfForm_116 : decode cX4_endOfForm 116 = .ok (.putfield 31, 3) := by decide +kernel
theorem dX4_endOfForm_119 : decode cX4_endOfForm 119 = .ok (.iconst (-1), 1) := by decide +kernel
theorem dX4_endOfForm_120 : decode cX4_endOfForm 120 = .ok (.ireturn, 1) := by decide +kernel
theorem dX4_endOfForm_121 : decode cX4_endOfForm 121 = .ok (.iload 7, 2) := by decide +kernel
theorem dX4_endOfForm_123 : decode cX4_endOfForm 123 = .ok (.istore_n 3, 1) := by decide +kernel
theorem dX4_endOfForm_124 : decode cX4_endOfForm 124 = .ok (.iinc 5 1, 3) := by decide +kernel
theorem dX4_endOfForm_127 : decode cX4_endOfForm 127 = .ok (.goto (-119), 3) := by decide +kernel
theorem dX4_endOfForm_130 : decode cX4_endOfForm 130 = .ok (.iload_n 3, 1) := by decide +kernel
theorem dX4_endOfForm_131 : decode cX4_endOfForm 131 = .ok (.ireturn, 1) := by decide +kernel
theorem dX4_endOfDigits_0 : decode cX4_endOfDigits 0 = .ok (.iload_n 1, 1) := by decide +kernel
theorem dX4_endOfDigits_1 : decode cX4_endOfDigits 1 = .ok (.istore_n 3, 1) := by decide +kernel
theorem dX4_endOfDigits_2 : decode cX4_endOfDigits 2 = .ok (.iconst 0, 1) := by decide +kernel
theorem dX4_endOfDigits_3 : decode cX4_endOfDigits 3 = .ok (.istore 4, 2) := by decide +kernel
theorem dX4_endOfDigits_5 : decode cX4_endOfDigits 5 = .ok (.iload 4, 2) := by decide +kernel
theorem dX4_endOfDigits_7 : decode cX4_endOfDigits 7 = .ok (.iload_n 2, 1) := by decide +kernel
theorem dX4_endOfDigits_8 : decode cX4_endOfDigits 8 = .ok (.if_icmp .ge 45, 3) := by decide +kernel
theorem dX4_endOfDigits_11 : decode cX4_endOfDigits 11 = .ok (.iload_n 3, 1) := by decide +kernel
theorem dX4_endOfDigits_12 : decode cX4_endOfDigits 12 = .ok (.aload_n 0, 1) := by decide +kernel
theorem dX4_endOfDigits_13 : decode cX4_endOfDigits 13 = .ok (.getfield 24, 3) := by decide +kernel
theorem dX4_endOfDigits_16 : decode cX4_endOfDigits 16 = .ok (.if_icmp .ge 37, 3) := by decide +kernel
theorem dX4_endOfDigits_19 : decode cX4_endOfDigits 19 = .ok (.aload_n 0, 1) := by decide +kernel
theorem dX4_endOfDigits_20 : decode cX4_endOfDigits 20 = .ok (.getfield 9, 3) := by decide +kernel
theorem dX4_endOfDigits_23 : decode cX4_endOfDigits 23 = .ok (.iload_n 3, 1) := by decide +kernel
theorem dX4_endOfDigits_24 : decode cX4_endOfDigits 24 = .ok (.caload, 1) := by decide +kernel
theorem dX4_endOfDigits_25 : decode cX4_endOfDigits 25 = .ok (.bipush 48, 2) := by decide +kernel
theorem dX4_endOfDigits_27 : decode cX4_endOfDigits 27 = .ok (.if_icmp .lt 26, 3) := by decide +kernel
theorem dX4_endOfDigits_30 : decode cX4_endOfDigits 30 = .ok (.aload_n 0, 1) := by decide +kernel
theorem dX4_endOfDigits_31 : decode cX4_endOfDigits 31 = .ok (.getfield 9, 3) := by decide +kernel
theorem dX4_endOfDigits_34 : decode cX4_endOfDigits 34 = .ok (.iload_n 3, 1) := by decide +kernel
theorem dX4_endOfDigits_35 : decode cX4_endOfDigits 35 = .ok (.caload, 1) := by decide +kernel
theorem dX4_endOfDigits_36 : decode cX4_endOfDigits 36 = .ok (.bipush 57, 2) := by decide +kernel
theorem dX4_endOfDigits_38 : decode cX4_endOfDigits 38 = .ok (.if_icmp .le 6, 3) := by decide +kernel
theorem dX4_endOfDigits_41 : decode cX4_endOfDigits 41 = .ok (.goto 12, 3) := by decide +kernel
theorem dX4_endOfDigits_44 : decode cX4_endOfDigits 44 = .ok (.iinc 3 1, 3) := by decide +kernel
theorem dX4_endOfDigits_47 : decode cX4_endOfDigits 47 = .ok (.iinc 4 1, 3) := by decide +kernel
theorem dX4_endOfDigits_50 : decode cX4_endOfDigits 50 = .ok (.goto (-45), 3) := by decide +kernel
theorem dX4_endOfDigits_53 : decode cX4_endOfDigits 53 = .ok (.iload_n 3, 1) := by decide +kernel
theorem dX4_endOfDigits_54 : decode cX4_endOfDigits 54 = .ok (.ireturn, 1) := by decide +kernel
theorem dX4_storeArgument_0 : decode cX4_storeArgument 0 = .ok (.iconst 0, 1) := by decide +kernel
theorem dX4_storeArgument_1 : decode cX4_storeArgument 1 = .ok (.istore 4, 2) := by decide +kernel
theorem dX4_storeArgument_3 : decode cX4_storeArgument 3 = .ok (.iload_n 2, 1) := by decide +kernel
theorem dX4_storeArgument_4 : decode cX4_storeArgument 4 = .ok (.istore 5, 2) := by decide +kernel
theorem dX4_storeArgument_6 : decode cX4_storeArgument 6 = .ok (.iload 5, 2) := by decide +kernel
theorem dX4_storeArgument_8 : decode cX4_storeArgument 8 = .ok (.iload_n 3, 1) := by decide +kernel
theorem dX4_storeArgument_9 : decode cX4_storeArgument 9 = .ok (.if_icmp .ge 27, 3) := by decide +kernel
theorem dX4_storeArgument_12 : decode cX4_storeArgument 12 = .ok (.iload 4, 2) := by decide +kernel
theorem dX4_storeArgument_14 : decode cX4_storeArgument 14 = .ok (.bipush 10, 2) := by decide +kernel
theorem dX4_storeArgument_16 : decode cX4_storeArgument 16 = .ok (.imul, 1) := by decide +kernel
theorem dX4_storeArgument_17 : decode cX4_storeArgument 17 = .ok (.aload_n 0, 1) := by decide +kernel
theorem dX4_storeArgument_18 : decode cX4_storeArgument 18 = .ok (.getfield 9, 3) := by decide +kernel
theorem dX4_storeArgument_21 : decode cX4_storeArgument 21 = .ok (.iload 5, 2) := by decide +kernel
theorem dX4_storeArgument_23 : decode cX4_storeArgument 23 = .ok (.caload, 1) := by decide +kernel
theorem dX4_storeArgument_24 : decode cX4_storeArgument 24 = .ok (.bipush 48, 2) := by decide +kernel
theorem dX4_storeArgument_26 : decode cX4_storeArgument 26 = .ok (.isub, 1) := by decide +kernel
theorem dX4_storeArgument_27 : decode cX4_storeArgument 27 = .ok (.iadd, 1) := by decide +kernel
theorem dX4_storeArgument_28 : decode cX4_storeArgument 28 = .ok (.istore 4, 2) := by decide +kernel
theorem dX4_storeArgument_30 : decode cX4_storeArgument 30 = .ok (.iinc 5 1, 3) := by decide +kernel
theorem dX4_storeArgument_33 : decode cX4_storeArgument 33 = .ok (.goto (-27), 3) := by decide +kernel
theorem dX4_storeArgument_36 : decode cX4_storeArgument 36 = .ok (.aload_n 0, 1) := by decide +kernel
theorem dX4_storeArgument_37 : decode cX4_storeArgument 37 = .ok (.getfield 28, 3) := by decide +kernel
theorem dX4_storeArgument_40 : decode cX4_storeArgument 40 = .ok (.bipush 10, 2) := by decide +kernel
theorem dX4_storeArgument_42 : decode cX4_storeArgument 42 = .ok (.if_icmp .ge 21, 3) := by decide +kernel
theorem dX4_storeArgument_45 : decode cX4_storeArgument 45 = .ok (.iload_n 1, 1) := by decide +kernel
theorem dX4_storeArgument_46 : decode cX4_storeArgument 46 = .ok (.iconst 4, 1) := by decide +kernel
theorem dX4_storeArgument_47 : decode cX4_storeArgument 47 = .ok (.if_icmp .ge 16, 3) := by decide +kernel
theorem dX4_storeArgument_50 : decode cX4_storeArgument 50 = .ok (.aload_n 0, 1) := by decide +kernel
theorem dX4_storeArgument_51 : decode cX4_storeArgument 51 = .ok (.getfield 21, 3) := by decide +kernel
theorem dX4_storeArgument_54 : decode cX4_storeArgument 54 = .ok (.aload_n 0, 1) := by decide +kernel
theorem dX4_storeArgument_55 : decode cX4_storeArgument 55 = .ok (.getfield 28, 3) := by decide +kernel
theorem dX4_storeArgument_58 : decode cX4_storeArgument 58 = .ok (.aaload, 1) := by decide +kernel
theorem dX4_storeArgument_59 : decode cX4_storeArgument 59 = .ok (.iload_n 1, 1) := by decide +kernel
theorem dX4_storeArgument_60 : decode cX4_storeArgument 60 = .ok (.iload 4, 2) := by decide +kernel
theorem dX4_storeArgument_62 : decode cX4_storeArgument 62 = .ok (.iastore, 1) := by decide +kernel
theorem dX4_storeArgument_63 : decode cX4_storeArgument 63 = .ok (.return_, 1) := by decide +kernel
theorem dX5_init_0 : decode cX5_init 0 = .ok (.aload_n 0, 1) := by decide +kernel
theorem dX5_init_1 : decode cX5_init 1 = .ok (.invokespecial 3, 3) := by decide +kernel
theorem dX5_init_4 : decode cX5_init 4 = .ok (.aload_n 0, 1) := by decide +kernel
theorem dX5_init_5 : decode cX5_init 5 = .ok (.aload_n 1, 1) := by decide +kernel
theorem dX5_init_6 : decode cX5_init 6 = .ok (.putfield 9, 3) := by decide +kernel
theorem dX5_init_9 : decode cX5_init 9 = .ok (.aload_n 0, 1) := by decide +kernel
theorem dX5_init_10 : decode cX5_init 10 = .ok (.new 15, 3) := by decide +kernel
theorem dX5_init_13 : decode cX5_init 13 = .ok (.dup, 1) := by decide +kernel
theorem dX5_init_14 : decode cX5_init 14 = .ok (.invokespecial 17, 3) := by decide +kernel
theorem dX5_init_17 : decode cX5_init 17 = .ok (.putfield 18, 3) := by decide +kernel
theorem dX5_init_20 : decode cX5_init 20 = .ok (.aload_n 0, 1) := by decide +kernel
theorem dX5_init_21 : decode cX5_init 21 = .ok (.bipush 12, 2) := by decide +kernel
theorem dX5_init_23 : decode cX5_init 23 = .ok (.anewarray 22, 3) := by decide +kernel
theorem dX5_init_26 : decode cX5_init 26 = .ok (.putfield 24, 3) := by decide +kernel
theorem dX5_init_29 : decode cX5_init 29 = .ok (.iconst 0, 1) := by decide +kernel
theorem dX5_init_30 : decode cX5_init 30 = .ok (.istore_n 2, 1) := by decide +kernel
theorem dX5_init_31 : decode cX5_init 31 = .ok (.iload_n 2, 1) := by decide +kernel
theorem dX5_init_32 : decode cX5_init 32 = .ok (.bipush 12, 2) := by decide +kernel
theorem dX5_init_34 : decode cX5_init 34 = .ok (.if_icmp .ge 22, 3) := by decide +kernel
theorem dX5_init_37 : decode cX5_init 37 = .ok (.aload_n 0, 1) := by decide +kernel
theorem dX5_init_38 : decode cX5_init 38 = .ok (.getfield 24, 3) := by decide +kernel
theorem dX5_init_41 : decode cX5_init 41 = .ok (.iload_n 2, 1) := by decide +kernel
theorem dX5_init_42 : decode cX5_init 42 = .ok (.new 22, 3) := by decide +kernel
theorem dX5_init_45 : decode cX5_init 45 = .ok (.dup, 1) := by decide +kernel
theorem dX5_init_46 : decode cX5_init 46 = .ok (.invokespecial 28, 3) := by decide +kernel
theorem dX5_init_49 : decode cX5_init 49 = .ok (.aastore, 1) := by decide +kernel
theorem dX5_init_50 : decode cX5_init 50 = .ok (.iinc 2 1, 3) := by decide +kernel
theorem dX5_init_53 : decode cX5_init 53 = .ok (.goto (-22), 3) := by decide +kernel
theorem dX5_init_56 : decode cX5_init 56 = .ok (.return_, 1) := by decide +kernel
theorem dX5_copyFrom_0 : decode cX5_copyFrom 0 = .ok (.aload_n 0, 1) := by decide +kernel
theorem dX5_copyFrom_1 : decode cX5_copyFrom 1 = .ok (.getfield 18, 3) := by decide +kernel
theorem dX5_copyFrom_4 : decode cX5_copyFrom 4 = .ok (.aload_n 1, 1) := by decide +kernel
theorem dX5_copyFrom_5 : decode cX5_copyFrom 5 = .ok (.getfield 18, 3) := by decide +kernel
theorem dX5_copyFrom_8 : decode cX5_copyFrom 8 = .ok (.invokevirtual 29, 3) := by decide +kernel
theorem dX5_copyFrom_11 : decode cX5_copyFrom 11 = .ok (.aload_n 0, 1) := by decide +kernel
theorem dX5_copyFrom_12 : decode cX5_copyFrom 12 = .ok (.aload_n 1, 1) := by decide +kernel
theorem dX5_copyFrom_13 : decode cX5_copyFrom 13 = .ok (.getfield 33, 3) := by decide +kernel
theorem dX5_copyFrom_16 : decode cX5_copyFrom 16 = .ok (.putfield 33, 3) := by decide +kernel
theorem dX5_copyFrom_19 : decode cX5_copyFrom 19 = .ok (.iconst 0, 1) := by decide +kernel
theorem dX5_copyFrom_20 : decode cX5_copyFrom 20 = .ok (.istore_n 2, 1) := by decide +kernel
theorem dX5_copyFrom_21 : decode cX5_copyFrom 21 = .ok (.iload_n 2, 1) := by decide +kernel
theorem dX5_copyFrom_22 : decode cX5_copyFrom 22 = .ok (.aload_n 0, 1) := by decide +kernel
theorem dX5_copyFrom_23 : decode cX5_copyFrom 23 = .ok (.getfield 33, 3) := by decide +kernel
theorem dX5_copyFrom_26 : decode cX5_copyFrom 26 = .ok (.if_icmp .ge 24, 3) := by decide +kernel
theorem dX5_copyFrom_29 : decode cX5_copyFrom 29 = .ok (.aload_n 0, 1) := by decide +kernel
theorem dX5_copyFrom_30 : decode cX5_copyFrom 30 = .ok (.getfield 24, 3) := by decide +kernel
theorem dX5_copyFrom_33 : decode cX5_copyFrom 33 = .ok (.iload_n 2, 1) := by decide +kernel
theorem dX5_copyFrom_34 : decode cX5_copyFrom 34 = .ok (.aaload, 1) := by decide +kernel
theorem dX5_copyFrom_35 : decode cX5_copyFrom 35 = .ok (.aload_n 1, 1) := by decide +kernel
theorem dX5_copyFrom_36 : decode cX5_copyFrom 36 = .ok (.getfield 24, 3) := by decide +kernel
theorem dX5_copyFrom_39 : decode cX5_copyFrom 39 = .ok (.iload_n 2, 1) := by decide +kernel
theorem dX5_copyFrom_40 : decode cX5_copyFrom 40 = .ok (.aaload, 1) := by decide +kernel
theorem dX5_copyFrom_41 : decode cX5_copyFrom 41 = .ok (.invokevirtual 37, 3) := by decide +kernel
theorem dX5_copyFrom_44 : decode cX5_copyFrom 44 = .ok (.iinc 2 1, 3) := by decide +kernel
theorem dX5_copyFrom_47 : decode cX5_copyFrom 47 = .ok (.goto (-26), 3) := by decide +kernel
theorem dX5_copyFrom_50 : decode cX5_copyFrom 50 = .ok (.aload_n 0, 1) := by decide +kernel
theorem dX5_copyFrom_51 : decode cX5_copyFrom 51 = .ok (.aload_n 1, 1) := by decide +kernel
theorem dX5_copyFrom_52 : decode cX5_copyFrom 52 = .ok (.getfield 40, 3) := by decide +kernel
theorem dX5_copyFrom_55 : decode cX5_copyFrom 55 = .ok (.putfield 40, 3) := by decide +kernel
theorem dX5_copyFrom_58 : decode cX5_copyFrom 58 = .ok (.aload_n 0, 1) := by decide +kernel
theorem dX5_copyFrom_59 : decode cX5_copyFrom 59 = .ok (.aload_n 1, 1) := by decide +kernel
theorem dX5_copyFrom_60 : decode cX5_copyFrom 60 = .ok (.getfield 43, 3) := by decide +kernel
theorem dX5_copyFrom_63 : decode cX5_copyFrom 63 = .ok (.putfield 43, 3) := by decide +kernel
theorem dX5_copyFrom_66 : decode cX5_copyFrom 66 = .ok (.aload_n 0, 1) := by decide +kernel
theorem dX5_copyFrom_67 : decode cX5_copyFrom 67 = .ok (.aload_n 1, 1) := by decide +kernel
theorem dX5_copyFrom_68 : decode cX5_copyFrom 68 = .ok (.getfield 46, 3) := by decide +kernel
theorem dX5_copyFrom_71 : decode cX5_copyFrom 71 = .ok (.putfield 46, 3) := by decide +kernel
theorem dX5_copyFrom_74 : decode cX5_copyFrom 74 = .ok (.aload_n 0, 1) := by decide +kernel
theorem dX5_copyFrom_75 : decode cX5_copyFrom 75 = .ok (.aload_n 1, 1) := by decide +kernel
theorem dX5_copyFrom_76 : decode cX5_copyFrom 76 = .ok (.getfield 49, 3) := by decide +kernel
theorem dX5_copyFrom_79 : decode cX5_copyFrom 79 = .ok (.putfield 49, 3) := by decide +kernel
theorem dX5_copyFrom_82 : decode cX5_copyFrom 82 = .ok (.aload_n 0, 1) := by decide +kernel
theorem dX5_copyFrom_83 : decode cX5_copyFrom 83 = .ok (.aload_n 1, 1) := by decide +kernel
theorem dX5_copyFrom_84 : decode cX5_copyFrom 84 = .ok (.getfield 52, 3) := by decide +kernel
theorem dX5_copyFrom_87 : decode cX5_copyFrom 87 = .ok (.putfield 52, 3) := by decide +kernel
theorem dX5_copyFrom_90 : decode cX5_copyFrom 90 = .ok (.return_, 1) := by decide +kernel
theorem dX5_refusalOf_0 : decode cX5_refusalOf 0 = .ok (.iload_n 1, 1) := by decide +kernel
theorem dX5_refusalOf_1 : decode cX5_refusalOf 1 = .ok (.tableswitch 145 0 9 #[55, 73, 84, 91, 98, 109, 116, 123, 145, 129], 55) := by decide +kernel
theorem dX5_refusalOf_56 : decode cX5_refusalOf 56 = .ok (.aload_n 0, 1) := by decide +kernel
theorem dX5_refusalOf_57 : decode cX5_refusalOf 57 = .ok (.getfield 18, 3) := by decide +kernel
theorem dX5_refusalOf_60 : decode cX5_refusalOf 60 = .ok (.getfield 55, 3) := by decide +kernel
theorem dX5_refusalOf_63 : decode cX5_refusalOf 63 = .ok (.bipush 9, 2) := by decide +kernel
theorem dX5_refusalOf_65 : decode cX5_refusalOf 65 = .ok (.if_icmp .lt 7, 3) := by decide +kernel
theorem dX5_refusalOf_68 : decode cX5_refusalOf 68 = .ok (.iconst 3, 1) := by decide +kernel
theorem dX5_refusalOf_69 : decode cX5_refusalOf 69 = .ok (.goto 4, 3) := by decide +kernel
theorem dX5_refusalOf_72 : decode cX5_refusalOf 72 = .ok (.iconst 0, 1) := by decide +kernel
theorem dX5_refusalOf_73 : decode cX5_refusalOf 73 = .ok (.ireturn, 1) := by decide +kernel
theorem dX5_refusalOf_74 : decode cX5_refusalOf 74 = .ok (.aload_n 0, 1) := by decide +kernel
theorem dX5_refusalOf_75 : decode cX5_refusalOf 75 = .ok (.iload_n 2, 1) := by decide +kernel
theorem dX5_refusalOf_76 : decode cX5_refusalOf 76 = .ok (.iload_n 3, 1) := by decide +kernel
theorem dX5_refusalOf_77 : decode cX5_refusalOf 77 = .ok (.iload 4, 2) := by decide +kernel
theorem dX5_refusalOf_79 : decode cX5_refusalOf 79 = .ok (.iload 5, 2) := by decide +kernel
theorem dX5_refusalOf_81 : decode cX5_refusalOf 81 = .ok (.invokevirtual 58, 3) := by decide +kernel
theorem dX5_refusalOf_84 : decode cX5_refusalOf 84 = .ok (.ireturn, 1) := by decide +kernel
theorem dX5_refusalOf_85 : decode cX5_refusalOf 85 = .ok (.aload_n 0, 1) := by decide +kernel
theorem dX5_refusalOf_86 : decode cX5_refusalOf 86 = .ok (.iload_n 2, 1) := by decide +kernel
theorem dX5_refusalOf_87 : decode cX5_refusalOf 87 = .ok (.iconst 1, 1) := by decide +kernel
theorem dX5_refusalOf_88 : decode cX5_refusalOf 88 = .ok (.invokevirtual 62, 3) := by decide +kernel
theorem dX5_refusalOf_91 : decode cX5_refusalOf 91 = .ok (.ireturn, 1) := by decide +kernel
theorem dX5_refusalOf_92 : decode cX5_refusalOf 92 = .ok (.aload_n 0, 1) := by decide +kernel
theorem dX5_refusalOf_93 : decode cX5_refusalOf 93 = .ok (.iload_n 2, 1) := by decide +kernel
theorem dX5_refusalOf_94 : decode cX5_refusalOf 94 = .ok (.iconst 0, 1) := by decide +kernel
theorem dX5_refusalOf_95 : decode cX5_refusalOf 95 = .ok (.invokevirtual 62, 3) := by decide +kernel
theorem dX5_refusalOf_98 : decode cX5_refusalOf 98 = .ok (.ireturn, 1) := by decide +kernel
theorem dX5_refusalOf_99 : decode cX5_refusalOf 99 = .ok (.aload_n 0, 1) := by decide +kernel
theorem dX5_refusalOf_100 : decode cX5_refusalOf 100 = .ok (.iload_n 2, 1) := by decide +kernel
theorem dX5_refusalOf_101 : decode cX5_refusalOf 101 = .ok (.iload_n 3, 1) := by decide +kernel
theorem dX5_refusalOf_102 : decode cX5_refusalOf 102 = .ok (.iload 4, 2) := by decide +kernel
theorem dX5_refusalOf_104 : decode cX5_refusalOf 104 = .ok (.iload 5, 2) := by decide +kernel
theorem dX5_refusalOf_106 : decode cX5_refusalOf 106 = .ok (.invokevirtual 66, 3) := by decide +kernel
theorem dX5_refusalOf_109 : decode cX5_refusalOf 109 = .ok (.ireturn, 1) := by decide +kernel
theorem dX5_refusalOf_110 : decode cX5_refusalOf 110 = .ok (.aload_n 0, 1) := by decide +kernel
theorem dX5_refusalOf_111 : decode cX5_refusalOf 111 = .ok (.iload_n 2, 1) := by decide +kernel
theorem dX5_refusalOf_112 : decode cX5_refusalOf 112 = .ok (.iload_n 3, 1) := by decide +kernel
theorem dX5_refusalOf_113 : decode cX5_refusalOf 113 = .ok (.invokevirtual 69, 3) := by decide +kernel
theorem dX5_refusalOf_116 : decode cX5_refusalOf 116 = .ok (.ireturn, 1) := by decide +kernel
theorem dX5_refusalOf_117 : decode cX5_refusalOf 117 = .ok (.aload_n 0, 1) := by decide +kernel
theorem dX5_refusalOf_118 : decode cX5_refusalOf 118 = .ok (.iload_n 2, 1) := by decide +kernel
theorem dX5_refusalOf_119 : decode cX5_refusalOf 119 = .ok (.iload_n 3, 1) := by decide +kernel
theorem dX5_refusalOf_120 : decode cX5_refusalOf 120 = .ok (.invokevirtual 73, 3) := by decide +kernel
theorem dX5_refusalOf_123 : decode cX5_refusalOf 123 = .ok (.ireturn, 1) := by decide +kernel
theorem dX5_refusalOf_124 : decode cX5_refusalOf 124 = .ok (.aload_n 0, 1) := by decide +kernel
theorem dX5_refusalOf_125 : decode cX5_refusalOf 125 = .ok (.iload_n 2, 1) := by decide +kernel
theorem dX5_refusalOf_126 : decode cX5_refusalOf 126 = .ok (.invokevirtual 76, 3) := by decide +kernel
theorem dX5_refusalOf_129 : decode cX5_refusalOf 129 = .ok (.ireturn, 1) := by decide +kernel
theorem dX5_refusalOf_130 : decode cX5_refusalOf 130 = .ok (.iload_n 2, 1) := by decide +kernel
theorem dX5_refusalOf_131 : decode cX5_refusalOf 131 = .ok (.iconst 1, 1) := by decide +kernel
theorem dX5_refusalOf_132 : decode cX5_refusalOf 132 = .ok (.bipush 120, 2) := by decide +kernel
theorem dX5_refusalOf_134 : decode cX5_refusalOf 134 = .ok (.invokestatic 80, 3) := by decide +kernel
theorem dX5_refusalOf_137 : decode cX5_refusalOf 137 = .ok (.ifCond .eq 7, 3) := by decide +kernel
theorem dX5_refusalOf_140 : decode cX5_refusalOf 140 = .ok (.iconst 0, 1) := by decide +kernel
theorem dX5_refusalOf_141 : decode cX5_refusalOf 141 = .ok (.goto 4, 3) := by decide +kernel
theorem dX5_refusalOf_144 : decode cX5_refusalOf 144 = .ok (.iconst 2, 1) := by decide +kernel
theorem dX5_refusalOf_145 : decode cX5_refusalOf 145 = .ok (.ireturn, 1) := by decide +kernel
theorem dX5_refusalOf_146 : decode cX5_refusalOf 146 = .ok (.iconst 0, 1) := by decide +kernel
theorem dX5_refusalOf_147 : decode cX5_refusalOf 147 = .ok (.ireturn, 1) := by decide +kernel
theorem dX5_carryOut_0 : decode cX5_carryOut 0 = .ok (.iload_n 1, 1) := by decide +kernel
theorem dX5_carryOut_1 : decode cX5_carryOut 1 = .ok (.tableswitch 146 0 9 #[55, 63, 77, 87, 97, 108, 119, 129, 135, 140], 55) := by decide +kernel
theorem dX5_carryOut_56 : decode cX5_carryOut 56 = .ok (.aload_n 0, 1) := by decide +kernel
theorem dX5_carryOut_57 : decode cX5_carryOut 57 = .ok (.getfield 18, 3) := by decide +kernel
theorem dX5_carryOut_60 : decode cX5_carryOut 60 = .ok (.invokevirtual 84, 3) := by decide +kernel
theorem dX5_carryOut_63 : decode cX5_carryOut 63 = .ok (.ireturn, 1) := by decide +kernel
theorem dX5_carryOut_64 : decode cX5_carryOut 64 = .ok (.aload_n 0, 1) := by decide +kernel
theorem dX5_carryOut_65 : decode cX5_carryOut 65 = .ok (.getfield 18, 3) := by decide +kernel
theorem dX5_carryOut_68 : decode cX5_carryOut 68 = .ok (.iload_n 2, 1) := by decide +kernel
theorem dX5_carryOut_69 : decode cX5_carryOut 69 = .ok (.iload_n 3, 1) := by decide +kernel
theorem dX5_carryOut_70 : decode cX5_carryOut 70 = .ok (.iload 4, 2) := by decide +kernel
theorem dX5_carryOut_72 : decode cX5_carryOut 72 = .ok (.iload 5, 2) := by decide +kernel
theorem dX5_carryOut_74 : decode cX5_carryOut 74 = .ok (.invokevirtual 88, 3) := by decide +kernel
theorem dX5_carryOut_77 : decode cX5_carryOut 77 = .ok (.ireturn, 1) := by decide +kernel
theorem dX5_carryOut_78 : decode cX5_carryOut 78 = .ok (.aload_n 0, 1) := by decide +kernel
theorem dX5_carryOut_79 : decode cX5_carryOut 79 = .ok (.getfield 18, 3) := by decide +kernel
theorem dX5_carryOut_82 : decode cX5_carryOut 82 = .ok (.iload_n 2, 1) := by decide +kernel
theorem dX5_carryOut_83 : decode cX5_carryOut 83 = .ok (.iconst 1, 1) := by decide +kernel
theorem dX5_carryOut_84 : decode cX5_carryOut 84 = .ok (.invokevirtual 91, 3) := by decide +kernel
theorem dX5_carryOut_87 : decode cX5_carryOut 87 = .ok (.ireturn, 1) := by decide +kernel
theorem dX5_carryOut_88 : decode cX5_carryOut 88 = .ok (.aload_n 0, 1) := by decide +kernel
theorem dX5_carryOut_89 : decode cX5_carryOut 89 = .ok (.getfield 18, 3) := by decide +kernel
theorem dX5_carryOut_92 : decode cX5_carryOut 92 = .ok (.iload_n 2, 1) := by decide +kernel
theorem dX5_carryOut_93 : decode cX5_carryOut 93 = .ok (.iconst 0, 1) := by decide +kernel
theorem dX5_carryOut_94 : decode cX5_carryOut 94 = .ok (.invokevirtual 91, 3) := by decide +kernel
theorem dX5_carryOut_97 : decode cX5_carryOut 97 = .ok (.ireturn, 1) := by decide +kernel
theorem dX5_carryOut_98 : decode cX5_carryOut 98 = .ok (.aload_n 0, 1) := by decide +kernel
theorem dX5_carryOut_99 : decode cX5_carryOut 99 = .ok (.iload_n 2, 1) := by decide +kernel
theorem dX5_carryOut_100 : decode cX5_carryOut 100 = .ok (.iload_n 3, 1) := by decide +kernel
theorem dX5_carryOut_101 : decode cX5_carryOut 101 = .ok (.iload 4, 2) := by decide +kernel
theorem dX5_carryOut_103 : decode cX5_carryOut 103 = .ok (.iload 5, 2) := by decide +kernel
theorem dX5_carryOut_105 : decode cX5_carryOut 105 = .ok (.invokevirtual 94, 3) := by decide +kernel
theorem dX5_carryOut_108 : decode cX5_carryOut 108 = .ok (.ireturn, 1) := by decide +kernel
theorem dX5_carryOut_109 : decode cX5_carryOut 109 = .ok (.aload_n 0, 1) := by decide +kernel
theorem dX5_carryOut_110 : decode cX5_carryOut 110 = .ok (.aload_n 0, 1) := by decide +kernel
theorem dX5_carryOut_111 : decode cX5_carryOut 111 = .ok (.iload_n 2, 1) := by decide +kernel
theorem dX5_carryOut_112 : decode cX5_carryOut 112 = .ok (.invokevirtual 97, 3) := by decide +kernel
theorem dX5_carryOut_115 : decode cX5_carryOut 115 = .ok (.iload_n 3, 1) := by decide +kernel
theorem dX5_carryOut_116 : decode cX5_carryOut 116 = .ok (.invokevirtual 101, 3) := by decide +kernel
theorem dX5_carryOut_119 : decode cX5_carryOut 119 = .ok (.ireturn, 1) := by decide +kernel
theorem dX5_carryOut_120 : decode cX5_carryOut 120 = .ok (.aload_n 0, 1) := by decide +kernel
theorem dX5_carryOut_121 : decode cX5_carryOut 121 = .ok (.iload_n 2, 1) := by decide +kernel
theorem dX5_carryOut_122 : decode cX5_carryOut 122 = .ok (.invokevirtual 97, 3) := by decide +kernel
theorem dX5_carryOut_125 : decode cX5_carryOut 125 = .ok (.iload_n 3, 1) := by decide +kernel
theorem dX5_carryOut_126 : decode cX5_carryOut 126 = .ok (.invokestatic 105, 3) := by decide +kernel
theorem dX5_carryOut_129 : decode cX5_carryOut 129 = .ok (.ireturn, 1) := by decide +kernel
theorem dX5_carryOut_130 : decode cX5_carryOut 130 = .ok (.aload_n 0, 1) := by decide +kernel
theorem dX5_carryOut_131 : decode cX5_carryOut 131 = .ok (.iload_n 2, 1) := by decide +kernel
theorem dX5_carryOut_132 : decode cX5_carryOut 132 = .ok (.invokevirtual 108, 3) := by decide +kernel
theorem dX5_carryOut_135 : decode cX5_carryOut 135 = .ok (.ireturn, 1) := by decide +kernel
theorem dX5_carryOut_136 : decode cX5_carryOut 136 = .ok (.aload_n 0, 1) := by decide +kernel
theorem dX5_carryOut_137 : decode cX5_carryOut 137 = .ok (.invokevirtual 111, 3) := by decide +kernel
theorem dX5_carryOut_140 : decode cX5_carryOut 140 = .ok (.ireturn, 1) := by decide +kernel
theorem dX5_carryOut_141 : decode cX5_carryOut 141 = .ok (.aload_n 0, 1) := by decide +kernel
theorem dX5_carryOut_142 : decode cX5_carryOut 142 = .ok (.iload_n 2, 1) := by decide +kernel
theorem dX5_carryOut_143 : decode cX5_carryOut 143 = .ok (.invokevirtual 114, 3) := by decide +kernel
theorem dX5_carryOut_146 : decode cX5_carryOut 146 = .ok (.ireturn, 1) := by decide +kernel
theorem dX5_carryOut_147 : decode cX5_carryOut 147 = .ok (.aload_n 0, 1) := by decide +kernel
theorem dX5_carryOut_148 : decode cX5_carryOut 148 = .ok (.invokevirtual 117, 3) := by decide +kernel
theorem dX5_carryOut_151 : decode cX5_carryOut 151 = .ok (.ireturn, 1) := by decide +kernel
theorem dX5_find_0 : decode cX5_find 0 = .ok (.aload_n 0, 1) := by decide +kernel
theorem dX5_find_1 : decode cX5_find 1 = .ok (.iload_n 1, 1) := by decide +kernel
theorem dX5_find_2 : decode cX5_find 2 = .ok (.invokevirtual 120, 3) := by decide +kernel
theorem dX5_find_5 : decode cX5_find 5 = .ok (.istore_n 2, 1) := by decide +kernel
theorem dX5_find_6 : decode cX5_find 6 = .ok (.iload_n 2, 1) := by decide +kernel
theorem dX5_find_7 : decode cX5_find 7 = .ok (.iconst (-1), 1) := by decide +kernel
theorem dX5_find_8 : decode cX5_find 8 = .ok (.if_icmp .ne 7, 3) := by decide +kernel
theorem dX5_find_11 : decode cX5_find 11 = .ok (.aconst_null, 1) := by decide +kernel
theorem dX5_find_12 : decode cX5_find 12 = .ok (.goto 9, 3) := by decide +kernel
theorem dX5_find_15 : decode cX5_find 15 = .ok (.aload_n 0, 1) := by decide +kernel
theorem dX5_find_16 : decode cX5_find 16 = .ok (.getfield 24, 3) := by decide +kernel
theorem dX5_find_19 : decode cX5_find 19 = .ok (.iload_n 2, 1) := by decide +kernel
theorem dX5_find_20 : decode cX5_find 20 = .ok (.aaload, 1) := by decide +kernel
theorem dX5_find_21 : decode cX5_find 21 = .ok (.areturn, 1) := by decide +kernel
theorem dX5_weightOn_0 : decode cX5_weightOn 0 = .ok (.iconst 0, 1) := by decide +kernel
theorem dX5_weightOn_1 : decode cX5_weightOn 1 = .ok (.istore_n 2, 1) := by decide +kernel
theorem dX5_weightOn_2 : decode cX5_weightOn 2 = .ok (.iconst 0, 1) := by decide +kernel
theorem dX5_weightOn_3 : decode cX5_weightOn 3 = .ok (.istore_n 3, 1) := by decide +kernel
theorem dX5_weightOn_4 : decode cX5_weightOn 4 = .ok (.iload_n 3, 1) := by decide +kernel
theorem dX5_weightOn_5 : decode cX5_weightOn 5 = .ok (.aload_n 0, 1) := by decide +kernel
theorem dX5_weightOn_6 : decode cX5_weightOn 6 = .ok (.getfield 33, 3) := by decide +kernel
theorem dX5_weightOn_9 : decode cX5_weightOn 9 = .ok (.if_icmp .ge 34, 3) := by decide +kernel
theorem dX5_weightOn_12 : decode cX5_weightOn 12 = .ok (.aload_n 0, 1) := by decide +kernel
theorem dX5_weightOn_13 : decode cX5_weightOn 13 = .ok (.getfield 24, 3) := by decide +kernel
theorem dX5_weightOn_16 : decode cX5_weightOn 16 = .ok (.iload_n 3, 1) := by decide +kernel
theorem dX5_weightOn_17 : decode cX5_weightOn 17 = .ok (.aaload, 1) := by decide +kernel
theorem dX5_weightOn_18 : decode cX5_weightOn 18 = .ok (.getfield 123, 3) := by decide +kernel
theorem dX5_weightOn_21 : decode cX5_weightOn 21 = .ok (.iload_n 1, 1) := by decide +kernel
theorem dX5_weightOn_22 : decode cX5_weightOn 22 = .ok (.if_icmp .ne 15, 3) := by decide +kernel
theorem dX5_weightOn_25 : decode cX5_weightOn 25 = .ok (.iload_n 2, 1) := by decide +kernel
theorem dX5_weightOn_26 : decode cX5_weightOn 26 = .ok (.aload_n 0, 1) := by decide +kernel
theorem dX5_weightOn_27 : decode cX5_weightOn 27 = .ok (.getfield 24, 3) := by decide +kernel
theorem dX5_weightOn_30 : decode cX5_weightOn 30 = .ok (.iload_n 3, 1) := by decide +kernel
theorem dX5_weightOn_31 : decode cX5_weightOn 31 = .ok (.aaload, 1) := by decide +kernel
theorem dX5_weightOn_32 : decode cX5_weightOn 32 = .ok (.getfield 126, 3) := by decide +kernel
theorem dX5_weightOn_35 : decode cX5_weightOn 35 = .ok (.iadd, 1) := by decide +kernel
theorem dX5_weightOn_36 : decode cX5_weightOn 36 = .ok (.istore_n 2, 1) := by decide +kernel
theorem dX5_weightOn_37 : decode cX5_weightOn 37 = .ok (.iinc 3 1, 3) := by decide +kernel
theorem dX5_weightOn_40 : decode cX5_weightOn 40 = .ok (.goto (-36), 3) := by decide +kernel
theorem dX5_weightOn_43 : decode cX5_weightOn 43 = .ok (.iload_n 2, 1) := by decide +kernel
theorem dX5_weightOn_44 : decode cX5_weightOn 44 = .ok (.ireturn, 1) := by decide +kernel
theorem dX5_heaviestLink_0 : decode cX5_heaviestLink 0 = .ok (.iconst 0, 1) := by decide +kernel
theorem dX5_heaviestLink_1 : decode cX5_heaviestLink 1 = .ok (.istore_n 1, 1) := by decide +kernel
theorem dX5_heaviestLink_2 : decode cX5_heaviestLink 2 = .ok (.iconst 0, 1) := by decide +kernel
theorem dX5_heaviestLink_3 : decode cX5_heaviestLink 3 = .ok (.istore_n 2, 1) := by decide +kernel
theorem dX5_heaviestLink_4 : decode cX5_heaviestLink 4 = .ok (.iconst 0, 1) := by decide +kernel
theorem dX5_heaviestLink_5 : decode cX5_heaviestLink 5 = .ok (.istore_n 3, 1) := by decide +kernel
theorem dX5_heaviestLink_6 : decode cX5_heaviestLink 6 = .ok (.iload_n 3, 1) := by decide +kernel
theorem dX5_heaviestLink_7 : decode cX5_heaviestLink 7 = .ok (.aload_n 0, 1) := by decide +kernel
theorem dX5_heaviestLink_8 : decode cX5_heaviestLink 8 = .ok (.getfield 18, 3) := by decide +kernel
theorem dX5_heaviestLink_11 : decode cX5_heaviestLink 11 = .ok (.getfield 129, 3) := by decide +kernel
theorem dX5_heaviestLink_14 : decode cX5_heaviestLink 14 = .ok (.if_icmp .ge 27, 3) := by decide +kernel
theorem dX5_heaviestLink_17 : decode cX5_heaviestLink 17 = .ok (.aload_n 0, 1) := by decide +kernel
theorem dX5_heaviestLink_18 : decode cX5_heaviestLink 18 = .ok (.iload_n 3, 1) := by decide +kernel
theorem dX5_heaviestLink_19 : decode cX5_heaviestLink 19 = .ok (.invokevirtual 130, 3) := by decide +kernel
theorem dX5_heaviestLink_22 : decode cX5_heaviestLink 22 = .ok (.istore 4, 2) := by decide +kernel
theorem dX5_heaviestLink_24 : decode cX5_heaviestLink 24 = .ok (.iload 4, 2) := by decide +kernel
theorem dX5_heaviestLink_26 : decode cX5_heaviestLink 26 = .ok (.iload_n 2, 1) := by decide +kernel
theorem dX5_heaviestLink_27 : decode cX5_heaviestLink 27 = .ok (.if_icmp .le 8, 3) := by decide +kernel
theorem dX5_heaviestLink_30 : decode cX5_heaviestLink 30 = .ok (.iload_n 3, 1) := by decide +kernel
theorem dX5_heaviestLink_31 : decode cX5_heaviestLink 31 = .ok (.istore_n 1, 1) := by decide +kernel
theorem dX5_heaviestLink_32 : decode cX5_heaviestLink 32 = .ok (.iload 4, 2) := by decide +kernel
theorem dX5_heaviestLink_34 : decode cX5_heaviestLink 34 = .ok (.istore_n 2, 1) := by decide +kernel
theorem dX5_heaviestLink_35 : decode cX5_heaviestLink 35 = .ok (.iinc 3 1, 3) := by decide +kernel
theorem dX5_heaviestLink_38 : decode cX5_heaviestLink 38 = .ok (.goto (-32), 3) := by decide +kernel
theorem dX5_heaviestLink_41 : decode cX5_heaviestLink 41 = .ok (.iload_n 1, 1) := by decide +kernel
theorem dX5_heaviestLink_42 : decode cX5_heaviestLink 42 = .ok (.ireturn, 1) := by decide +kernel
theorem dX5_noLinkIsOverloaded_0 : decode cX5_noLinkIsOverloaded 0 = .ok (.iconst 0, 1) := by decide +kernel
theorem dX5_noLinkIsOverloaded_1 : decode cX5_noLinkIsOverloaded 1 = .ok (.istore_n 1, 1) := by decide +kernel
theorem dX5_noLinkIsOverloaded_2 : decode cX5_noLinkIsOverloaded 2 = .ok (.iload_n 1, 1) := by decide +kernel
theorem dX5_noLinkIsOverloaded_3 : decode cX5_noLinkIsOverloaded 3 = .ok (.aload_n 0, 1) := by decide +kernel
theorem dX5_noLinkIsOverloaded_4 : decode cX5_noLinkIsOverloaded 4 = .ok (.getfield 18, 3) := by decide +kernel
theorem dX5_noLinkIsOverloaded_7 : decode cX5_noLinkIsOverloaded 7 = .ok (.getfield 129, 3) := by decide +kernel
theorem dX5_noLinkIsOverloaded_10 : decode cX5_noLinkIsOverloaded 10 = .ok (.if_icmp .ge 21, 3) := by decide +kernel
theorem dX5_noLinkIsOverloaded_13 : decode cX5_noLinkIsOverloaded 13 = .ok (.aload_n 0, 1) := by decide +kernel
theorem dX5_noLinkIsOverloaded_14 : decode cX5_noLinkIsOverloaded 14 = .ok (.iload_n 1, 1) := by decide +kernel
theorem dX5_noLinkIsOverloaded_15 : decode cX5_noLinkIsOverloaded 15 = .ok (.invokevirtual 130, 3) := by decide +kernel
theorem dX5_noLinkIsOverloaded_18 : decode cX5_noLinkIsOverloaded 18 = .ok (.bipush 10, 2) := by decide +kernel
theorem dX5_noLinkIsOverloaded_20 : decode cX5_noLinkIsOverloaded 20 = .ok (.if_icmp .le 5, 3) := by decide +kernel
theorem dX5_noLinkIsOverloaded_23 : decode cX5_noLinkIsOverloaded 23 = .ok (.iconst 0, 1) := by decide +kernel
theorem dX5_noLinkIsOverloaded_24 : decode cX5_noLinkIsOverloaded 24 = .ok (.ireturn, 1) := by decide +kernel
theorem dX5_noLinkIsOverloaded_25 : decode cX5_noLinkIsOverloaded 25 = .ok (.iinc 1 1, 3) := by decide +kernel
theorem dX5_noLinkIsOverloaded_28 : decode cX5_noLinkIsOverloaded 28 = .ok (.goto (-26), 3) := by decide +kernel
theorem dX5_noLinkIsOverloaded_31 : decode cX5_noLinkIsOverloaded 31 = .ok (.iconst 1, 1) := by decide +kernel
theorem dX5_noLinkIsOverloaded_32 : decode cX5_noLinkIsOverloaded 32 = .ok (.ireturn, 1) := by decide +kernel
theorem dX5_parcelsWaitingIn_0 : decode cX5_parcelsWaitingIn 0 = .ok (.iconst 0, 1) := by decide +kernel
theorem dX5_parcelsWaitingIn_1 : decode cX5_parcelsWaitingIn 1 = .ok (.istore_n 2, 1) := by decide +kernel
theorem dX5_parcelsWaitingIn_2 : decode cX5_parcelsWaitingIn 2 = .ok (.iconst 0, 1) := by decide +kernel
theorem dX5_parcelsWaitingIn_3 : decode cX5_parcelsWaitingIn 3 = .ok (.istore_n 3, 1) := by decide +kernel
theorem dX5_parcelsWaitingIn_4 : decode cX5_parcelsWaitingIn 4 = .ok (.iload_n 3, 1) := by decide +kernel
theorem dX5_parcelsWaitingIn_5 : decode cX5_parcelsWaitingIn 5 = .ok (.aload_n 0, 1) := by decide +kernel
theorem dX5_parcelsWaitingIn_6 : decode cX5_parcelsWaitingIn 6 = .ok (.getfield 33, 3) := by decide +kernel
theorem dX5_parcelsWaitingIn_9 : decode cX5_parcelsWaitingIn 9 = .ok (.if_icmp .ge 37, 3) := by decide +kernel
theorem dX5_parcelsWaitingIn_12 : decode cX5_parcelsWaitingIn 12 = .ok (.aload_n 0, 1) := by decide +kernel
theorem dX5_parcelsWaitingIn_13 : decode cX5_parcelsWaitingIn 13 = .ok (.getfield 24, 3) := by decide +kernel
theorem dX5_parcelsWaitingIn_16 : decode cX5_parcelsWaitingIn 16 = .ok (.iload_n 3, 1) := by decide +kernel
theorem dX5_parcelsWaitingIn_17 : decode cX5_parcelsWaitingIn 17 = .ok (.aaload, 1) := by decide +kernel
theorem dX5_parcelsWaitingIn_18 : decode cX5_parcelsWaitingIn 18 = .ok (.invokevirtual 133, 3) := by decide +kernel
theorem dX5_parcelsWaitingIn_21 : decode cX5_parcelsWaitingIn 21 = .ok (.ifCond .ne 19, 3) := by decide +kernel
theorem dX5_parcelsWaitingIn_24 : decode cX5_parcelsWaitingIn 24 = .ok (.aload_n 0, 1) := by decide +kernel
theorem dX5_parcelsWaitingIn_25 : decode cX5_parcelsWaitingIn 25 = .ok (.getfield 24, 3) := by decide +kernel
theorem dX5_parcelsWaitingIn_28 : decode cX5_parcelsWaitingIn 28 = .ok (.iload_n 3, 1) := by decide +kernel
theorem dX5_parcelsWaitingIn_29 : decode cX5_parcelsWaitingIn 29 = .ok (.aaload, 1) := by decide +kernel
theorem dX5_parcelsWaitingIn_30 : decode cX5_parcelsWaitingIn 30 = .ok (.getfield 137, 3) := by decide +kernel
theorem dX5_parcelsWaitingIn_33 : decode cX5_parcelsWaitingIn 33 = .ok (.iload_n 1, 1) := by decide +kernel
theorem dX5_parcelsWaitingIn_34 : decode cX5_parcelsWaitingIn 34 = .ok (.if_icmp .ne 6, 3) := by decide +kernel
theorem dX5_parcelsWaitingIn_37 : decode cX5_parcelsWaitingIn 37 = .ok (.iinc 2 1, 3) := by decide +kernel
theorem dX5_parcelsWaitingIn_40 : decode cX5_parcelsWaitingIn 40 = .ok (.iinc 3 1, 3) := by decide +kernel
theorem dX5_parcelsWaitingIn_43 : decode cX5_parcelsWaitingIn 43 = .ok (.goto (-39), 3) := by decide +kernel
theorem dX5_parcelsWaitingIn_46 : decode cX5_parcelsWaitingIn 46 = .ok (.iload_n 2, 1) := by decide +kernel
theorem dX5_parcelsWaitingIn_47 : decode cX5_parcelsWaitingIn 47 = .ok (.ireturn, 1) := by decide +kernel
theorem dX5_parcelsArrivingWithin_0 : decode cX5_parcelsArrivingWithin 0 = .ok (.iconst 0, 1) := by decide +kernel
theorem dX5_parcelsArrivingWithin_1 : decode cX5_parcelsArrivingWithin 1 = .ok (.istore_n 2, 1) := by decide +kernel
theorem dX5_parcelsArrivingWithin_2 : decode cX5_parcelsArrivingWithin 2 = .ok (.iconst 0, 1) := by decide +kernel
theorem dX5_parcelsArrivingWithin_3 : decode cX5_parcelsArrivingWithin 3 = .ok (.istore_n 3, 1) := by decide +kernel
theorem dX5_parcelsArrivingWithin_4 : decode cX5_parcelsArrivingWithin 4 = .ok (.iload_n 3, 1) := by decide +kernel
theorem dX5_parcelsArrivingWithin_5 : decode cX5_parcelsArrivingWithin 5 = .ok (.aload_n 0, 1) := by decide +kernel
theorem dX5_parcelsArrivingWithin_6 : decode cX5_parcelsArrivingWithin 6 = .ok (.getfield 33, 3) := by decide +kernel
theorem dX5_parcelsArrivingWithin_9 : decode cX5_parcelsArrivingWithin 9 = .ok (.if_icmp .ge 42, 3) := by decide +kernel
theorem dX5_parcelsArrivingWithin_12 : decode cX5_parcelsArrivingWithin 12 = .ok (.aload_n 0, 1) := by decide +kernel
theorem dX5_parcelsArrivingWithin_13 : decode cX5_parcelsArrivingWithin 13 = .ok (.getfield 24, 3) := by decide +kernel
theorem dX5_parcelsArrivingWithin_16 : decode cX5_parcelsArrivingWithin 16 = .ok (.iload_n 3, 1) := by decide +kernel
theorem dX5_parcelsArrivingWithin_17 : decode cX5_parcelsArrivingWithin 17 = .ok (.aaload, 1) := by decide +kernel
theorem dX5_parcelsArrivingWithin_18 : decode cX5_parcelsArrivingWithin 18 = .ok (.invokevirtual 133, 3) := by decide +kernel
theorem dX5_parcelsArrivingWithin_21 : decode cX5_parcelsArrivingWithin 21 = .ok (.ifCond .eq 24, 3) := by decide +kernel
theorem dX5_parcelsArrivingWithin_24 : decode cX5_parcelsArrivingWithin 24 = .ok (.aload_n 0, 1) := by decide +kernel
theorem dX5_parcelsArrivingWithin_25 : decode cX5_parcelsArrivingWithin 25 = .ok (.getfield 24, 3) := by decide +kernel
theorem dX5_parcelsArrivingWithin_28 : decode cX5_parcelsArrivingWithin 28 = .ok (.iload_n 3, 1) := by decide +kernel
theorem dX5_parcelsArrivingWithin_29 : decode cX5_parcelsArrivingWithin 29 = .ok (.aaload, 1) := by decide +kernel
theorem dX5_parcelsArrivingWithin_30 : decode cX5_parcelsArrivingWithin 30 = .ok (.getfield 140, 3) := by decide +kernel
theorem dX5_parcelsArrivingWithin_33 : decode cX5_parcelsArrivingWithin 33 = .ok (.aload_n 0, 1) := by decide +kernel
theorem dX5_parcelsArrivingWithin_34 : decode cX5_parcelsArrivingWithin 34 = .ok (.getfield 40, 3) := by decide +kernel
theorem dX5_parcelsArrivingWithin_37 : decode cX5_parcelsArrivingWithin 37 = .ok (.iload_n 1, 1) := by decide +kernel
theorem dX5_parcelsArrivingWithin_38 : decode cX5_parcelsArrivingWithin 38 = .ok (.iadd, 1) := by decide +kernel
theorem dX5_parcelsArrivingWithin_39 : decode cX5_parcelsArrivingWithin 39 = .ok (.if_icmp .gt 6, 3) := by decide +kernel
theorem dX5_parcelsArrivingWithin_42 : decode cX5_parcelsArrivingWithin 42 = .ok (.iinc 2 1, 3) := by decide +kernel
theorem dX5_parcelsArrivingWithin_45 : decode cX5_parcelsArrivingWithin 45 = .ok (.iinc 3 1, 3) := by decide +kernel
theorem dX5_parcelsArrivingWithin_48 : decode cX5_parcelsArrivingWithin 48 = .ok (.goto (-44), 3) := by decide +kernel
theorem dX5_parcelsArrivingWithin_51 : decode cX5_parcelsArrivingWithin 51 = .ok (.iload_n 2, 1) := by decide +kernel
theorem dX5_parcelsArrivingWithin_52 : decode cX5_parcelsArrivingWithin 52 = .ok (.ireturn, 1) := by decide +kernel
theorem dX5_sumOfStamps_0 : decode cX5_sumOfStamps 0 = .ok (.iconst 0, 1) := by decide +kernel
theorem dX5_sumOfStamps_1 : decode cX5_sumOfStamps 1 = .ok (.istore_n 1, 1) := by decide +kernel
theorem dX5_sumOfStamps_2 : decode cX5_sumOfStamps 2 = .ok (.iconst 0, 1) := by decide +kernel
theorem dX5_sumOfStamps_3 : decode cX5_sumOfStamps 3 = .ok (.istore_n 2, 1) := by decide +kernel
theorem dX5_sumOfStamps_4 : decode cX5_sumOfStamps 4 = .ok (.iload_n 2, 1) := by decide +kernel
theorem dX5_sumOfStamps_5 : decode cX5_sumOfStamps 5 = .ok (.aload_n 0, 1) := by decide +kernel
theorem dX5_sumOfStamps_6 : decode cX5_sumOfStamps 6 = .ok (.getfield 33, 3) := by decide +kernel
theorem dX5_sumOfStamps_9 : decode cX5_sumOfStamps 9 = .ok (.if_icmp .ge 21, 3) := by decide +kernel
theorem dX5_sumOfStamps_12 : decode cX5_sumOfStamps 12 = .ok (.iload_n 1, 1) := by decide +kernel
theorem dX5_sumOfStamps_13 : decode cX5_sumOfStamps 13 = .ok (.aload_n 0, 1) := by decide +kernel
theorem dX5_sumOfStamps_14 : decode cX5_sumOfStamps 14 = .ok (.getfield 24, 3) := by decide +kernel
theorem dX5_sumOfStamps_17 : decode cX5_sumOfStamps 17 = .ok (.iload_n 2, 1) := by decide +kernel
theorem dX5_sumOfStamps_18 : decode cX5_sumOfStamps 18 = .ok (.aaload, 1) := by decide +kernel
theorem dX5_sumOfStamps_19 : decode cX5_sumOfStamps 19 = .ok (.getfield 143, 3) := by decide +kernel
theorem dX5_sumOfStamps_22 : decode cX5_sumOfStamps 22 = .ok (.iadd, 1) := by decide +kernel
theorem dX5_sumOfStamps_23 : decode cX5_sumOfStamps 23 = .ok (.istore_n 1, 1) := by decide +kernel
theorem dX5_sumOfStamps_24 : decode cX5_sumOfStamps 24 = .ok (.iinc 2 1, 3) := by decide +kernel
theorem dX5_sumOfStamps_27 : decode cX5_sumOfStamps 27 = .ok (.goto (-23), 3) := by decide +kernel
theorem dX5_sumOfStamps_30 : decode cX5_sumOfStamps 30 = .ok (.iload_n 1, 1) := by decide +kernel
theorem dX5_sumOfStamps_31 : decode cX5_sumOfStamps 31 = .ok (.ireturn, 1) := by decide +kernel
theorem dX5_forecastOf_0 : decode cX5_forecastOf 0 = .ok (.aload_n 1, 1) := by decide +kernel
theorem dX5_forecastOf_1 : decode cX5_forecastOf 1 = .ok (.invokevirtual 133, 3) := by decide +kernel
theorem dX5_forecastOf_4 : decode cX5_forecastOf 4 = .ok (.ifCond .eq 10, 3) := by decide +kernel
theorem dX5_forecastOf_7 : decode cX5_forecastOf 7 = .ok (.aload_n 1, 1) := by decide +kernel
theorem dX5_forecastOf_8 : decode cX5_forecastOf 8 = .ok (.getfield 140, 3) := by decide +kernel
theorem dX5_forecastOf_11 : decode cX5_forecastOf 11 = .ok (.goto 7, 3) := by decide +kernel
theorem dX5_forecastOf_14 : decode cX5_forecastOf 14 = .ok (.aload_n 0, 1) := by decide +kernel
theorem dX5_forecastOf_15 : decode cX5_forecastOf 15 = .ok (.getfield 40, 3) := by decide +kernel
theorem dX5_forecastOf_18 : decode cX5_forecastOf 18 = .ok (.istore_n 2, 1) := by decide +kernel
theorem dX5_forecastOf_19 : decode cX5_forecastOf 19 = .ok (.aload_n 0, 1) := by decide +kernel
theorem dX5_forecastOf_20 : decode cX5_forecastOf 20 = .ok (.getfield 9, 3) := by decide +kernel
theorem dX5_forecastOf_23 : decode cX5_forecastOf 23 = .ok (.aload_n 0, 1) := by decide +kernel
theorem dX5_forecastOf_24 : decode cX5_forecastOf 24 = .ok (.getfield 18, 3) := by decide +kernel
theorem dX5_forecastOf_27 : decode cX5_forecastOf 27 = .ok (.aload_n 1, 1) := by decide +kernel
theorem dX5_forecastOf_28 : decode cX5_forecastOf 28 = .ok (.getfield 137, 3) := by decide +kernel
theorem dX5_forecastOf_31 : decode cX5_forecastOf 31 = .ok (.aload_n 1, 1) := by decide +kernel
theorem dX5_forecastOf_32 : decode cX5_forecastOf 32 = .ok (.getfield 146, 3) := by decide +kernel
theorem dX5_forecastOf_35 : decode cX5_forecastOf 35 = .ok (.iload_n 2, 1) := by decide +kernel
theorem dX5_forecastOf_36 : decode cX5_forecastOf 36 = .ok (.invokevirtual 149, 3) := by decide +kernel
theorem dX5_forecastOf_39 : decode cX5_forecastOf 39 = .ok (.ireturn, 1) := by decide +kernel
theorem dX5_nextLinkOf_0 : decode cX5_nextLinkOf 0 = .ok (.aload_n 0, 1) := by decide +kernel
theorem dX5_nextLinkOf_1 : decode cX5_nextLinkOf 1 = .ok (.getfield 9, 3) := by decide +kernel
theorem dX5_nextLinkOf_4 : decode cX5_nextLinkOf 4 = .ok (.aload_n 0, 1) := by decide +kernel
theorem dX5_nextLinkOf_5 : decode cX5_nextLinkOf 5 = .ok (.getfield 18, 3) := by decide +kernel
theorem dX5_nextLinkOf_8 : decode cX5_nextLinkOf 8 = .ok (.aload_n 1, 1) := by decide +kernel
theorem dX5_nextLinkOf_9 : decode cX5_nextLinkOf 9 = .ok (.getfield 137, 3) := by decide +kernel
theorem dX5_nextLinkOf_12 : decode cX5_nextLinkOf 12 = .ok (.aload_n 1, 1) := by decide +kernel
theorem dX5_nextLinkOf_13 : decode cX5_nextLinkOf 13 = .ok (.getfield 146, 3) := by decide +kernel
theorem dX5_nextLinkOf_16 : decode cX5_nextLinkOf 16 = .ok (.aload_n 0, 1) := by decide +kernel
theorem dX5_nextLinkOf_17 : decode cX5_nextLinkOf 17 = .ok (.getfield 40, 3) := by decide +kernel
theorem dX5_nextLinkOf_20 : decode cX5_nextLinkOf 20 = .ok (.invokevirtual 149, 3) := by decide +kernel
theorem dX5_nextLinkOf_23 : decode cX5_nextLinkOf 23 = .ok (.istore_n 2, 1) := by decide +kernel
theorem dX5_nextLinkOf_24 : decode cX5_nextLinkOf 24 = .ok (.iload_n 2, 1) := by decide +kernel
theorem dX5_nextLinkOf_25 : decode cX5_nextLinkOf 25 = .ok (.ldc 155, 2) := by decide +kernel
theorem dX5_nextLinkOf_27 : decode cX5_nextLinkOf 27 = .ok (.if_icmp .ne 5, 3) := by decide +kernel
theorem dX5_nextLinkOf_30 : decode cX5_nextLinkOf 30 = .ok (.iconst (-1), 1) := by decide +kernel
theorem dX5_nextLinkOf_31 : decode cX5_nextLinkOf 31 = .ok (.ireturn, 1) := by decide +kernel
theorem dX5_nextLinkOf_32 : decode cX5_nextLinkOf 32 = .ok (.iconst 0, 1) := by decide +kernel
theorem dX5_nextLinkOf_33 : decode cX5_nextLinkOf 33 = .ok (.istore_n 3, 1) := by decide +kernel
theorem dX5_nextLinkOf_34 : decode cX5_nextLinkOf 34 = .ok (.iload_n 3, 1) := by decide +kernel
theorem dX5_nextLinkOf_35 : decode cX5_nextLinkOf 35 = .ok (.aload_n 0, 1) := by decide +kernel
theorem dX5_nextLinkOf_36 : decode cX5_nextLinkOf 36 = .ok (.getfield 18, 3) := by decide +kernel
theorem dX5_nextLinkOf_39 : decode cX5_nextLinkOf 39 = .ok (.getfield 129, 3) := by decide +kernel
theorem dX5_nextLinkOf_42 : decode cX5_nextLinkOf 42 = .ok (.if_icmp .ge 69, 3) := by decide +kernel
theorem dX5_nextLinkOf_45 : decode cX5_nextLinkOf 45 = .ok (.aload_n 0, 1) := by decide +kernel
theorem dX5_nextLinkOf_46 : decode cX5_nextLinkOf 46 = .ok (.getfield 18, 3) := by decide +kernel
theorem dX5_nextLinkOf_49 : decode cX5_nextLinkOf 49 = .ok (.getfield 156, 3) := by decide +kernel
theorem dX5_nextLinkOf_52 : decode cX5_nextLinkOf 52 = .ok (.iload_n 3, 1) := by decide +kernel
theorem dX5_nextLinkOf_53 : decode cX5_nextLinkOf 53 = .ok (.aaload, 1) := by decide +kernel
theorem dX5_nextLinkOf_54 : decode cX5_nextLinkOf 54 = .ok (.astore 4, 2) := by decide +kernel
theorem dX5_nextLinkOf_56 : decode cX5_nextLinkOf 56 = .ok (.aload_n 0, 1) := by decide +kernel
theorem dX5_nextLinkOf_57 : decode cX5_nextLinkOf 57 = .ok (.getfield 40, 3) := by decide +kernel
theorem dX5_nextLinkOf_60 : decode cX5_nextLinkOf 60 = .ok (.aload 4, 2) := by decide +kernel
theorem dX5_nextLinkOf_62 : decode cX5_nextLinkOf 62 = .ok (.getfield 160, 3) := by decide +kernel
theorem dX5_nextLinkOf_65 : decode cX5_nextLinkOf 65 = .ok (.iadd, 1) := by decide +kernel
theorem dX5_nextLinkOf_66 : decode cX5_nextLinkOf 66 = .ok (.istore 5, 2) := by decide +kernel
theorem dX5_nextLinkOf_68 : decode cX5_nextLinkOf 68 = .ok (.aload_n 0, 1) := by decide +kernel
theorem dX5_nextLinkOf_69 : decode cX5_nextLinkOf 69 = .ok (.aload_n 1, 1) := by decide +kernel
theorem dX5_nextLinkOf_70 : decode cX5_nextLinkOf 70 = .ok (.iload_n 3, 1) := by decide +kernel
theorem dX5_nextLinkOf_71 : decode cX5_nextLinkOf 71 = .ok (.invokevirtual 165, 3) := by decide +kernel
theorem dX5_nextLinkOf_74 : decode cX5_nextLinkOf 74 = .ok (.ifCond .eq 31, 3) := by decide +kernel
theorem dX5_nextLinkOf_77 : decode cX5_nextLinkOf 77 = .ok (.aload_n 0, 1) := by decide +kernel
theorem dX5_nextLinkOf_78 : decode cX5_nextLinkOf 78 = .ok (.getfield 9, 3) := by decide +kernel
theorem dX5_nextLinkOf_81 : decode cX5_nextLinkOf 81 = .ok (.aload_n 0, 1) := by decide +kernel
theorem dX5_nextLinkOf_82 : decode cX5_nextLinkOf 82 = .ok (.getfield 18, 3) := by decide +kernel
theorem dX5_nextLinkOf_85 : decode cX5_nextLinkOf 85 = .ok (.aload 4, 2) := by decide +kernel
theorem dX5_nextLinkOf_87 : decode cX5_nextLinkOf 87 = .ok (.getfield 169, 3) := by decide +kernel
theorem dX5_nextLinkOf_90 : decode cX5_nextLinkOf 90 = .ok (.aload_n 1, 1) := by decide +kernel
theorem dX5_nextLinkOf_91 : decode cX5_nextLinkOf 91 = .ok (.getfield 146, 3) := by decide +kernel
theorem dX5_nextLinkOf_94 : decode cX5_nextLinkOf 94 = .ok (.iload 5, 2) := by decide +kernel
theorem dX5_nextLinkOf_96 : decode cX5_nextLinkOf 96 = .ok (.invokevirtual 149, 3) := by decide +kernel
theorem dX5_nextLinkOf_99 : decode cX5_nextLinkOf 99 = .ok (.iload_n 2, 1) := by decide +kernel
theorem dX5_nextLinkOf_100 : decode cX5_nextLinkOf 100 = .ok (.if_icmp .ne 5, 3) := by decide +kernel
theorem dX5_nextLinkOf_103 : decode cX5_nextLinkOf 103 = .ok (.iload_n 3, 1) := by decide +kernel
theorem dX5_nextLinkOf_104 : decode cX5_nextLinkOf 104 = .ok (.ireturn, 1) := by decide +kernel
theorem dX5_nextLinkOf_105 : decode cX5_nextLinkOf 105 = .ok (.iinc 3 1, 3) := by decide +kernel
theorem dX5_nextLinkOf_108 : decode cX5_nextLinkOf 108 = .ok (.goto (-74), 3) := by decide +kernel
theorem dX5_nextLinkOf_111 : decode cX5_nextLinkOf 111 = .ok (.iconst (-1), 1) := by decide +kernel
theorem dX5_nextLinkOf_112 : decode cX5_nextLinkOf 112 = .ok (.ireturn, 1) := by decide +kernel
theorem dX5_sendAllReady_0 : decode cX5_sendAllReady 0 = .ok (.iconst 0, 1) := by decide +kernel
theorem dX5_sendAllReady_1 : decode cX5_sendAllReady 1 = .ok (.istore_n 1, 1) := by decide +kernel
theorem dX5_sendAllReady_2 : decode cX5_sendAllReady 2 = .ok (.iconst 0, 1) := by decide +kernel
theorem dX5_sendAllReady_3 : decode cX5_sendAllReady 3 = .ok (.istore_n 2, 1) := by decide +kernel
theorem dX5_sendAllReady_4 : decode cX5_sendAllReady 4 = .ok (.iload_n 2, 1) := by decide +kernel
theorem dX5_sendAllReady_5 : decode cX5_sendAllReady 5 = .ok (.aload_n 0, 1) := by decide +kernel
theorem dX5_sendAllReady_6 : decode cX5_sendAllReady 6 = .ok (.getfield 33, 3) := by decide +kernel
theorem dX5_sendAllReady_9 : decode cX5_sendAllReady 9 = .ok (.if_icmp .ge 64, 3) := by decide +kernel
theorem dX5_sendAllReady_12 : decode cX5_sendAllReady 12 = .ok (.aload_n 0, 1) := by decide +kernel
theorem dX5_sendAllReady_13 : decode cX5_sendAllReady 13 = .ok (.getfield 24, 3) := by decide +kernel
theorem dX5_sendAllReady_16 : decode cX5_sendAllReady 16 = .ok (.iload_n 2, 1) := by decide +kernel
theorem dX5_sendAllReady_17 : decode cX5_sendAllReady 17 = .ok (.aaload, 1) := by decide +kernel
theorem dX5_sendAllReady_18 : decode cX5_sendAllReady 18 = .ok (.astore_n 3, 1) := by decide +kernel
theorem dX5_sendAllReady_19 : decode cX5_sendAllReady 19 = .ok (.aload_n 3, 1) := by decide +kernel
theorem dX5_sendAllReady_20 : decode cX5_sendAllReady 20 = .ok (.invokevirtual 133, 3) := by decide +kernel
theorem dX5_sendAllReady_23 : decode cX5_sendAllReady 23 = .ok (.ifCond .ne 44, 3) := by decide +kernel
theorem dX5_sendAllReady_26 : decode cX5_sendAllReady 26 = .ok (.aload_n 3, 1) := by decide +kernel
theorem dX5_sendAllReady_27 : decode cX5_sendAllReady 27 = .ok (.getfield 143, 3) := by decide +kernel
theorem dX5_sendAllReady_30 : decode cX5_sendAllReady 30 = .ok (.ifCond .le 37, 3) := by decide +kernel
theorem dX5_sendAllReady_33 : decode cX5_sendAllReady 33 = .ok (.aload_n 0, 1) := by decide +kernel
theorem dX5_sendAllReady_34 : decode cX5_sendAllReady 34 = .ok (.aload_n 3, 1) := by decide +kernel
theorem dX5_sendAllReady_35 : decode cX5_sendAllReady 35 = .ok (.invokevirtual 172, 3) := by decide +kernel
theorem dX5_sendAllReady_38 : decode cX5_sendAllReady 38 = .ok (.istore 4, 2) := by decide +kernel
theorem dX5_sendAllReady_40 : decode cX5_sendAllReady 40 = .ok (.iload 4, 2) := by decide +kernel
theorem dX5_sendAllReady_42 : decode cX5_sendAllReady 42 = .ok (.iconst (-1), 1) := by decide +kernel
theorem dX5_sendAllReady_43 : decode cX5_sendAllReady 43 = .ok (.if_icmp .eq 24, 3) := by decide +kernel
theorem dX5_sendAllReady_46 : decode cX5_sendAllReady 46 = .ok (.aload_n 0, 1) := by decide +kernel
theorem dX5_sendAllReady_47 : decode cX5_sendAllReady 47 = .ok (.aload_n 3, 1) := by decide +kernel
theorem dX5_sendAllReady_48 : decode cX5_sendAllReady 48 = .ok (.iload 4, 2) := by decide +kernel
theorem dX5_sendAllReady_50 : decode cX5_sendAllReady 50 = .ok (.invokevirtual 176, 3) := by decide +kernel
theorem dX5_sendAllReady_53 : decode cX5_sendAllReady 53 = .ok (.ifCond .eq 14, 3) := by decide +kernel
theorem dX5_sendAllReady_56 : decode cX5_sendAllReady 56 = .ok (.aload_n 0, 1) := by decide +kernel
theorem dX5_sendAllReady_57 : decode cX5_sendAllReady 57 = .ok (.aload_n 3, 1) := by decide +kernel
theorem dX5_sendAllReady_58 : decode cX5_sendAllReady 58 = .ok (.iload 4, 2) := by decide +kernel
theorem dX5_sendAllReady_60 : decode cX5_sendAllReady 60 = .ok (.invokevirtual 101, 3) := by decide +kernel
theorem dX5_sendAllReady_63 : decode cX5_sendAllReady 63 = .ok (.pop, 1) := by decide +kernel
theorem dX5_sendAllReady_64 : decode cX5_sendAllReady 64 = .ok (.iinc 1 1, 3) := by decide +kernel
theorem dX5_sendAllReady_67 : decode cX5_sendAllReady 67 = .ok (.iinc 2 1, 3) := by decide +kernel
theorem dX5_sendAllReady_70 : decode cX5_sendAllReady 70 = .ok (.goto (-66), 3) := by decide +kernel
theorem dX5_sendAllReady_73 : decode cX5_sendAllReady 73 = .ok (.iload_n 1, 1) := by decide +kernel
theorem dX5_sendAllReady_74 : decode cX5_sendAllReady 74 = .ok (.ireturn, 1) := by decide +kernel
theorem dX5_letHourPass_0 : decode cX5_letHourPass 0 = .ok (.aload_n 0, 1) := by decide +kernel
theorem dX5_letHourPass_1 : decode cX5_letHourPass 1 = .ok (.dup, 1) := by decide +kernel
theorem dX5_letHourPass_2 : decode cX5_letHourPass 2 = .ok (.getfield 40, 3) := by decide +kernel
theorem dX5_letHourPass_5 : decode cX5_letHourPass 5 = .ok (.iconst 1, 1) := by decide +kernel
theorem dX5_letHourPass_6 : decode cX5_letHourPass 6 = .ok (.iadd, 1) := by decide +kernel
theorem dX5_letHourPass_7 : decode cX5_letHourPass 7 = .ok (.putfield 40, 3) := by decide +kernel
theorem dX5_letHourPass_10 : decode cX5_letHourPass 10 = .ok (.iconst 0, 1) := by decide +kernel
theorem dX5_letHourPass_11 : decode cX5_letHourPass 11 = .ok (.istore_n 1, 1) := by decide +kernel
theorem dX5_letHourPass_12 : decode cX5_letHourPass 12 = .ok (.aload_n 0, 1) := by decide +kernel
theorem dX5_letHourPass_13 : decode cX5_letHourPass 13 = .ok (.getfield 46, 3) := by decide +kernel
theorem dX5_letHourPass_16 : decode cX5_letHourPass 16 = .ok (.istore_n 2, 1) := by decide +kernel
theorem dX5_letHourPass_17 : decode cX5_letHourPass 17 = .ok (.aload_n 0, 1) := by decide +kernel
theorem dX5_letHourPass_18 : decode cX5_letHourPass 18 = .ok (.getfield 33, 3) := by decide +kernel
theorem dX5_letHourPass_21 : decode cX5_letHourPass 21 = .ok (.istore_n 3, 1) := by decide +kernel
theorem dX5_letHourPass_22 : decode cX5_letHourPass 22 = .ok (.iload_n 3, 1) := by decide +kernel
theorem dX5_letHourPass_23 : decode cX5_letHourPass 23 = .ok (.ifCond .le 85, 3) := by decide +kernel
theorem dX5_letHourPass_26 : decode cX5_letHourPass 26 = .ok (.aload_n 0, 1) := by decide +kernel
theorem dX5_letHourPass_27 : decode cX5_letHourPass 27 = .ok (.getfield 24, 3) := by decide +kernel
theorem dX5_letHourPass_30 : decode cX5_letHourPass 30 = .ok (.iload_n 1, 1) := by decide +kernel
theorem dX5_letHourPass_31 : decode cX5_letHourPass 31 = .ok (.aaload, 1) := by decide +kernel
theorem dX5_letHourPass_32 : decode cX5_letHourPass 32 = .ok (.astore 4, 2) := by decide +kernel
theorem dX5_letHourPass_34 : decode cX5_letHourPass 34 = .ok (.aload 4, 2) := by decide +kernel
theorem dX5_letHourPass_36 : decode cX5_letHourPass 36 = .ok (.invokevirtual 133, 3) := by decide +kernel
theorem dX5_letHourPass_39 : decode cX5_letHourPass 39 = .ok (.ifCond .eq 21, 3) := by decide +kernel
theorem dX5_letHourPass_42 : decode cX5_letHourPass 42 = .ok (.aload 4, 2) := by decide +kernel
theorem dX5_letHourPass_44 : decode cX5_letHourPass 44 = .ok (.getfield 140, 3) := by decide +kernel
theorem dX5_letHourPass_47 : decode cX5_letHourPass 47 = .ok (.aload_n 0, 1) := by decide +kernel
theorem dX5_letHourPass_48 : decode cX5_letHourPass 48 = .ok (.getfield 40, 3) := by decide +kernel
theorem dX5_letHourPass_51 : decode cX5_letHourPass 51 = .ok (.if_icmp .ne 9, 3) := by decide +kernel
theorem dX5_letHourPass_54 : decode cX5_letHourPass 54 = .ok (.aload 4, 2) := by decide +kernel
theorem dX5_letHourPass_56 : decode cX5_letHourPass 56 = .ok (.iconst (-1), 1) := by decide +kernel
theorem dX5_letHourPass_57 : decode cX5_letHourPass 57 = .ok (.putfield 123, 3) := by decide +kernel
theorem dX5_letHourPass_60 : decode cX5_letHourPass 60 = .ok (.aload 4, 2) := by decide +kernel
theorem dX5_letHourPass_62 : decode cX5_letHourPass 62 = .ok (.invokevirtual 133, 3) := by decide +kernel
theorem dX5_letHourPass_65 : decode cX5_letHourPass 65 = .ok (.ifCond .ne 16, 3) := by decide +kernel
theorem dX5_letHourPass_68 : decode cX5_letHourPass 68 = .ok (.aload 4, 2) := by decide +kernel
theorem dX5_letHourPass_70 : decode cX5_letHourPass 70 = .ok (.getfield 137, 3) := by decide +kernel
theorem dX5_letHourPass_73 : decode cX5_letHourPass 73 = .ok (.aload 4, 2) := by decide +kernel
theorem dX5_letHourPass_75 : decode cX5_letHourPass 75 = .ok (.getfield 146, 3) := by decide +kernel
theorem dX5_letHourPass_78 : decode cX5_letHourPass 78 = .ok (.if_icmp .eq 9, 3) := by decide +kernel
theorem dX5_letHourPass_81 : decode cX5_letHourPass 81 = .ok (.iinc 1 1, 3) := by decide +kernel
theorem dX5_letHourPass_84 : decode cX5_letHourPass 84 = .ok (.goto 18, 3) := by decide +kernel
theorem dX5_letHourPass_87 : decode cX5_letHourPass 87 = .ok (.aload_n 0, 1) := by decide +kernel
theorem dX5_letHourPass_88 : decode cX5_letHourPass 88 = .ok (.iload_n 1, 1) := by decide +kernel
theorem dX5_letHourPass_89 : decode cX5_letHourPass 89 = .ok (.invokevirtual 179, 3) := by decide +kernel
theorem dX5_letHourPass_92 : decode cX5_letHourPass 92 = .ok (.aload_n 0, 1) := by decide +kernel
theorem dX5_letHourPass_93 : decode cX5_letHourPass 93 = .ok (.dup, 1) := by decide +kernel
theorem dX5_letHourPass_94 : decode cX5_letHourPass 94 = .ok (.getfield 46, 3) := by decide +kernel
theorem dX5_letHourPass_97 : decode cX5_letHourPass 97 = .ok (.iconst 1, 1) := by decide +kernel
theorem dX5_letHourPass_98 : decode cX5_letHourPass 98 = .ok (.iadd, 1) := by decide +kernel
theorem dX5_letHourPass_99 : decode cX5_letHourPass 99 = .ok (.putfield 46, 3) := by decide +kernel
theorem dX5_letHourPass_102 : decode cX5_letHourPass 102 = .ok (.iinc 3 (-1), 3) := by decide +kernel
theorem dX5_letHourPass_105 : decode cX5_letHourPass 105 = .ok (.goto (-83), 3) := by decide +kernel
theorem dX5_letHourPass_108 : decode cX5_letHourPass 108 = .ok (.aload_n 0, 1) := by decide +kernel
theorem dX5_letHourPass_109 : decode cX5_letHourPass 109 = .ok (.getfield 46, 3) := by decide +kernel
theorem dX5_letHourPass_112 : decode cX5_letHourPass 112 = .ok (.iload_n 2, 1) := by decide +kernel
theorem dX5_letHourPass_113 : decode cX5_letHourPass 113 = .ok (.isub, 1) := by decide +kernel
theorem dX5_letHourPass_114 : decode cX5_letHourPass 114 = .ok (.ireturn, 1) := by decide +kernel
theorem dX5_isBetween_0 : decode cX5_isBetween 0 = .ok (.iload_n 0, 1) := by decide +kernel
theorem dX5_isBetween_1 : decode cX5_isBetween 1 = .ok (.iload_n 1, 1) := by decide +kernel
theorem dX5_isBetween_2 : decode cX5_isBetween 2 = .ok (.if_icmp .lt 12, 3) := by decide +kernel
theorem dX5_isBetween_5 : decode cX5_isBetween 5 = .ok (.iload_n 0, 1) := by decide +kernel
theorem dX5_isBetween_6 : decode cX5_isBetween 6 = .ok (.iload_n 2, 1) := by decide +kernel
theorem dX5_isBetween_7 : decode cX5_isBetween 7 = .ok (.if_icmp .gt 7, 3) := by decide +kernel
theorem dX5_isBetween_10 : decode cX5_isBetween 10 = .ok (.iconst 1, 1) := by decide +kernel
theorem dX5_isBetween_11 : decode cX5_isBetween 11 = .ok (.goto 4, 3) := by decide +kernel
theorem dX5_isBetween_14 : decode cX5_isBetween 14 = .ok (.iconst 0, 1) := by decide +kernel
theorem dX5_isBetween_15 : decode cX5_isBetween 15 = .ok (.ireturn, 1) := by decide +kernel
theorem dX5_refusalOfNewLink_0 : decode cX5_refusalOfNewLink 0 = .ok (.aload_n 0, 1) := by decide +kernel
theorem dX5_refusalOfNewLink_1 : decode cX5_refusalOfNewLink 1 = .ok (.getfield 18, 3) := by decide +kernel
theorem dX5_refusalOfNewLink_4 : decode cX5_refusalOfNewLink 4 = .ok (.iload_n 1, 1) := by decide +kernel
theorem dX5_refusalOfNewLink_5 : decode cX5_refusalOfNewLink 5 = .ok (.invokevirtual 183, 3) := by decide +kernel
theorem dX5_refusalOfNewLink_8 : decode cX5_refusalOfNewLink 8 = .ok (.ifCond .eq 14, 3) := by decide +kernel
theorem dX5_refusalOfNewLink_11 : decode cX5_refusalOfNewLink 11 = .ok (.aload_n 0, 1) := by decide +kernel
theorem dX5_refusalOfNewLink_12 : decode cX5_refusalOfNewLink 12 = .ok (.getfield 18, 3) := by decide +kernel
theorem dX5_refusalOfNewLink_15 : decode cX5_refusalOfNewLink 15 = .ok (.iload_n 2, 1) := by decide +kernel
theorem dX5_refusalOfNewLink_16 : decode cX5_refusalOfNewLink 16 = .ok (.invokevirtual 183, 3) := by decide +kernel
theorem dX5_refusalOfNewLink_19 : decode cX5_refusalOfNewLink 19 = .ok (.ifCond .ne 5, 3) := by decide +kernel
theorem dX5_refusalOfNewLink_22 : decode cX5_refusalOfNewLink 22 = .ok (.iconst 1, 1) := by decide +kernel
theorem dX5_refusalOfNewLink_23 : decode cX5_refusalOfNewLink 23 = .ok (.ireturn, 1) := by decide +kernel
theorem dX5_refusalOfNewLink_24 : decode cX5_refusalOfNewLink 24 = .ok (.iload_n 1, 1) := by decide +kernel
theorem dX5_refusalOfNewLink_25 : decode cX5_refusalOfNewLink 25 = .ok (.iload_n 2, 1) := by decide +kernel
theorem dX5_refusalOfNewLink_26 : decode cX5_refusalOfNewLink 26 = .ok (.if_icmp .eq 23, 3) := by decide +kernel
theorem dX5_refusalOfNewLink_29 : decode cX5_refusalOfNewLink 29 = .ok (.iload_n 3, 1) := by decide +kernel
theorem dX5_refusalOfNewLink_30 : decode cX5_refusalOfNewLink 30 = .ok (.iconst 1, 1) := by decide +kernel
theorem dX5_refusalOfNewLink_31 : decode cX5_refusalOfNewLink 31 = .ok (.bipush 9, 2) := by decide +kernel
theorem dX5_refusalOfNewLink_33 : decode cX5_refusalOfNewLink 33 = .ok (.invokestatic 80, 3) := by decide +kernel
theorem dX5_refusalOfNewLink_36 : decode cX5_refusalOfNewLink 36 = .ok (.ifCond .eq 13, 3) := by decide +kernel
theorem dX5_refusalOfNewLink_39 : decode cX5_refusalOfNewLink 39 = .ok (.iload 4, 2) := by decide +kernel
theorem dX5_refusalOfNewLink_41 : decode cX5_refusalOfNewLink 41 = .ok (.iconst 0, 1) := by decide +kernel
theorem dX5_refusalOfNewLink_42 : decode cX5_refusalOfNewLink 42 = .ok (.iconst 5, 1) := by decide +kernel
theorem dX5_refusalOfNewLink_43 : decode cX5_refusalOfNewLink 43 = .ok (.invokestatic 80, 3) := by decide +kernel
theorem dX5_refusalOfNewLink_46 : decode cX5_refusalOfNewLink 46 = .ok (.ifCond .ne 5, 3) := by decide +kernel
theorem dX5_refusalOfNewLink_49 : decode cX5_refusalOfNewLink 49 = .ok (.iconst 2, 1) := by decide +kernel
theorem dX5_refusalOfNewLink_50 : decode cX5_refusalOfNewLink 50 = .ok (.ireturn, 1) := by decide +kernel
theorem dX5_refusalOfNewLink_51 : decode cX5_refusalOfNewLink 51 = .ok (.aload_n 0, 1) := by decide +kernel
theorem dX5_refusalOfNewLink_52 : decode cX5_refusalOfNewLink 52 = .ok (.getfield 18, 3) := by decide +kernel
theorem dX5_refusalOfNewLink_55 : decode cX5_refusalOfNewLink 55 = .ok (.getfield 129, 3) := by decide +kernel
theorem dX5_refusalOfNewLink_58 : decode cX5_refusalOfNewLink 58 = .ok (.bipush 20, 2) := by decide +kernel
theorem dX5_refusalOfNewLink_60 : decode cX5_refusalOfNewLink 60 = .ok (.if_icmp .lt 7, 3) := by decide +kernel
theorem dX5_refusalOfNewLink_63 : decode cX5_refusalOfNewLink 63 = .ok (.iconst 3, 1) := by decide +kernel
theorem dX5_refusalOfNewLink_64 : decode cX5_refusalOfNewLink 64 = .ok (.goto 4, 3) := by decide +kernel
theorem dX5_refusalOfNewLink_67 : decode cX5_refusalOfNewLink 67 = .ok (.iconst 0, 1) := by decide +kernel
theorem dX5_refusalOfNewLink_68 : decode cX5_refusalOfNewLink 68 = .ok (.ireturn, 1) := by decide +kernel
theorem dX5_refusalOfBlocking_0 : decode cX5_refusalOfBlocking 0 = .ok (.aload_n 0, 1) := by decide +kernel
theorem dX5_refusalOfBlocking_1 : decode cX5_refusalOfBlocking 1 = .ok (.getfield 18, 3) := by decide +kernel
theorem dX5_refusalOfBlocking_4 : decode cX5_refusalOfBlocking 4 = .ok (.iload_n 1, 1) := by decide +kernel
theorem dX5_refusalOfBlocking_5 : decode cX5_refusalOfBlocking 5 = .ok (.invokevirtual 187, 3) := by decide +kernel
theorem dX5_refusalOfBlocking_8 : decode cX5_refusalOfBlocking 8 = .ok (.ifCond .ne 5, 3) := by decide +kernel
theorem dX5_refusalOfBlocking_11 : decode cX5_refusalOfBlocking 11 = .ok (.iconst 1, 1) := by decide +kernel
theorem dX5_refusalOfBlocking_12 : decode cX5_refusalOfBlocking 12 = .ok (.ireturn, 1) := by decide +kernel
theorem dX5_refusalOfBlocking_13 : decode cX5_refusalOfBlocking 13 = .ok (.aload_n 0, 1) := by decide +kernel
theorem dX5_refusalOfBlocking_14 : decode cX5_refusalOfBlocking 14 = .ok (.getfield 18, 3) := by decide +kernel
theorem dX5_refusalOfBlocking_17 : decode cX5_refusalOfBlocking 17 = .ok (.getfield 156, 3) := by decide +kernel
theorem dX5_refusalOfBlocking_20 : decode cX5_refusalOfBlocking 20 = .ok (.iload_n 1, 1) := by decide +kernel
theorem dX5_refusalOfBlocking_21 : decode cX5_refusalOfBlocking 21 = .ok (.aaload, 1) := by decide +kernel
theorem dX5_refusalOfBlocking_22 : decode cX5_refusalOfBlocking 22 = .ok (.getfield 190, 3) := by decide +kernel
theorem dX5_refusalOfBlocking_25 : decode cX5_refusalOfBlocking 25 = .ok (.iload_n 2, 1) := by decide +kernel
theorem dX5_refusalOfBlocking_26 : decode cX5_refusalOfBlocking 26 = .ok (.if_icmp .ne 7, 3) := by decide +kernel
theorem dX5_refusalOfBlocking_29 : decode cX5_refusalOfBlocking 29 = .ok (.iconst 3, 1) := by decide +kernel
theorem dX5_refusalOfBlocking_30 : decode cX5_refusalOfBlocking 30 = .ok (.goto 4, 3) := by decide +kernel
theorem dX5_refusalOfBlocking_33 : decode cX5_refusalOfBlocking 33 = .ok (.iconst 0, 1) := by decide +kernel
theorem dX5_refusalOfBlocking_34 : decode cX5_refusalOfBlocking 34 = .ok (.ireturn, 1) := by decide +kernel
theorem dX5_refusalOfNewParcel_0 : decode cX5_refusalOfNewParcel 0 = .ok (.aload_n 0, 1) := by decide +kernel
theorem dX5_refusalOfNewParcel_1 : decode cX5_refusalOfNewParcel 1 = .ok (.getfield 18, 3) := by decide +kernel
theorem dX5_refusalOfNewParcel_4 : decode cX5_refusalOfNewParcel 4 = .ok (.iload_n 1, 1) := by decide +kernel
theorem dX5_refusalOfNewParcel_5 : decode cX5_refusalOfNewParcel 5 = .ok (.invokevirtual 183, 3) := by decide +kernel
theorem dX5_refusalOfNewParcel_8 : decode cX5_refusalOfNewParcel 8 = .ok (.ifCond .eq 14, 3) := by decide +kernel
theorem dX5_refusalOfNewParcel_11 : decode cX5_refusalOfNewParcel 11 = .ok (.aload_n 0, 1) := by decide +kernel
theorem dX5_refusalOfNewParcel_12 : decode cX5_refusalOfNewParcel 12 = .ok (.getfield 18, 3) := by decide +kernel
theorem dX5_refusalOfNewParcel_15 : decode cX5_refusalOfNewParcel 15 = .ok (.iload_n 2, 1) := by decide +kernel
theorem dX5_refusalOfNewParcel_16 : decode cX5_refusalOfNewParcel 16 = .ok (.invokevirtual 183, 3) := by decide +kernel
theorem dX5_refusalOfNewParcel_19 : decode cX5_refusalOfNewParcel 19 = .ok (.ifCond .ne 5, 3) := by decide +kernel
theorem dX5_refusalOfNewParcel_22 : decode cX5_refusalOfNewParcel 22 = .ok (.iconst 1, 1) := by decide +kernel
theorem dX5_refusalOfNewParcel_23 : decode cX5_refusalOfNewParcel 23 = .ok (.ireturn, 1) := by decide +kernel
theorem dX5_refusalOfNewParcel_24 : decode cX5_refusalOfNewParcel 24 = .ok (.iload_n 1, 1) := by decide +kernel
theorem dX5_refusalOfNewParcel_25 : decode cX5_refusalOfNewParcel 25 = .ok (.iload_n 2, 1) := by decide +kernel
theorem dX5_refusalOfNewParcel_26 : decode cX5_refusalOfNewParcel 26 = .ok (.if_icmp .eq 24, 3) := by decide +kernel
theorem dX5_refusalOfNewParcel_29 : decode cX5_refusalOfNewParcel 29 = .ok (.iload_n 3, 1) := by decide +kernel
theorem dX5_refusalOfNewParcel_30 : decode cX5_refusalOfNewParcel 30 = .ok (.iconst 1, 1) := by decide +kernel
theorem dX5_refusalOfNewParcel_31 : decode cX5_refusalOfNewParcel 31 = .ok (.bipush 9, 2) := by decide +kernel
theorem dX5_refusalOfNewParcel_33 : decode cX5_refusalOfNewParcel 33 = .ok (.invokestatic 80, 3) := by decide +kernel
theorem dX5_refusalOfNewParcel_36 : decode cX5_refusalOfNewParcel 36 = .ok (.ifCond .eq 14, 3) := by decide +kernel
theorem dX5_refusalOfNewParcel_39 : decode cX5_refusalOfNewParcel 39 = .ok (.iload 4, 2) := by decide +kernel
theorem dX5_refusalOfNewParcel_41 : decode cX5_refusalOfNewParcel 41 = .ok (.iconst 0, 1) := by decide +kernel
theorem dX5_refusalOfNewParcel_42 : decode cX5_refusalOfNewParcel 42 = .ok (.bipush 20, 2) := by decide +kernel
theorem dX5_refusalOfNewParcel_44 : decode cX5_refusalOfNewParcel 44 = .ok (.invokestatic 80, 3) := by decide +kernel
theorem dX5_refusalOfNewParcel_47 : decode cX5_refusalOfNewParcel 47 = .ok (.ifCond .ne 5, 3) := by decide +kernel
theorem dX5_refusalOfNewParcel_50 : decode cX5_refusalOfNewParcel 50 = .ok (.iconst 2, 1) := by decide +kernel
theorem dX5_refusalOfNewParcel_51 : decode cX5_refusalOfNewParcel 51 = .ok (.ireturn, 1) := by decide +kernel
theorem dX5_refusalOfNewParcel_52 : decode cX5_refusalOfNewParcel 52 = .ok (.aload_n 0, 1) := by decide +kernel
theorem dX5_refusalOfNewParcel_53 : decode cX5_refusalOfNewParcel 53 = .ok (.getfield 33, 3) := by decide +kernel
theorem dX5_refusalOfNewParcel_56 : decode cX5_refusalOfNewParcel 56 = .ok (.bipush 12, 2) := by decide +kernel
theorem dX5_refusalOfNewParcel_58 : decode cX5_refusalOfNewParcel 58 = .ok (.if_icmp .lt 7, 3) := by decide +kernel
theorem dX5_refusalOfNewParcel_61 : decode cX5_refusalOfNewParcel 61 = .ok (.iconst 3, 1) := by decide +kernel
theorem dX5_refusalOfNewParcel_62 : decode cX5_refusalOfNewParcel 62 = .ok (.goto 4, 3) := by decide +kernel
theorem dX5_refusalOfNewParcel_65 : decode cX5_refusalOfNewParcel 65 = .ok (.iconst 0, 1) := by decide +kernel
theorem dX5_refusalOfNewParcel_66 : decode cX5_refusalOfNewParcel 66 = .ok (.ireturn, 1) := by decide +kernel
theorem dX5_refusalOfSending_0 : decode cX5_refusalOfSending 0 = .ok (.aload_n 0, 1) := by decide +kernel
theorem dX5_refusalOfSending_1 : decode cX5_refusalOfSending 1 = .ok (.iload_n 1, 1) := by decide +kernel
theorem dX5_refusalOfSending_2 : decode cX5_refusalOfSending 2 = .ok (.invokevirtual 97, 3) := by decide +kernel
theorem dX5_refusalOfSending_5 : decode cX5_refusalOfSending 5 = .ok (.astore_n 3, 1) := by decide +kernel
theorem dX5_refusalOfSending_6 : decode cX5_refusalOfSending 6 = .ok (.aload_n 3, 1) := by decide +kernel
theorem dX5_refusalOfSending_7 : decode cX5_refusalOfSending 7 = .ok (.ifnonnull 5, 3) := by decide +kernel
theorem dX5_refusalOfSending_10 : decode cX5_refusalOfSending 10 = .ok (.iconst 4, 1) := by decide +kernel
theorem dX5_refusalOfSending_11 : decode cX5_refusalOfSending 11 = .ok (.ireturn, 1) := by decide +kernel
theorem dX5_refusalOfSending_12 : decode cX5_refusalOfSending 12 = .ok (.aload_n 0, 1) := by decide +kernel
theorem dX5_refusalOfSending_13 : decode cX5_refusalOfSending 13 = .ok (.getfield 18, 3) := by decide +kernel
theorem dX5_refusalOfSending_16 : decode cX5_refusalOfSending 16 = .ok (.iload_n 2, 1) := by decide +kernel
theorem dX5_refusalOfSending_17 : decode cX5_refusalOfSending 17 = .ok (.invokevirtual 187, 3) := by decide +kernel
theorem dX5_refusalOfSending_20 : decode cX5_refusalOfSending 20 = .ok (.ifCond .ne 5, 3) := by decide +kernel
theorem dX5_refusalOfSending_23 : decode cX5_refusalOfSending 23 = .ok (.iconst 1, 1) := by decide +kernel
theorem dX5_refusalOfSending_24 : decode cX5_refusalOfSending 24 = .ok (.ireturn, 1) := by decide +kernel
theorem dX5_refusalOfSending_25 : decode cX5_refusalOfSending 25 = .ok (.aload_n 3, 1) := by decide +kernel
theorem dX5_refusalOfSending_26 : decode cX5_refusalOfSending 26 = .ok (.invokevirtual 133, 3) := by decide +kernel
theorem dX5_refusalOfSending_29 : decode cX5_refusalOfSending 29 = .ok (.ifCond .ne 32, 3) := by decide +kernel
theorem dX5_refusalOfSending_32 : decode cX5_refusalOfSending 32 = .ok (.aload_n 3, 1) := by decide +kernel
theorem dX5_refusalOfSending_33 : decode cX5_refusalOfSending 33 = .ok (.getfield 143, 3) := by decide +kernel
theorem dX5_refusalOfSending_36 : decode cX5_refusalOfSending 36 = .ok (.ifCond .le 25, 3) := by decide +kernel
theorem dX5_refusalOfSending_39 : decode cX5_refusalOfSending 39 = .ok (.aload_n 0, 1) := by decide +kernel
theorem dX5_refusalOfSending_40 : decode cX5_refusalOfSending 40 = .ok (.aload_n 3, 1) := by decide +kernel
theorem dX5_refusalOfSending_41 : decode cX5_refusalOfSending 41 = .ok (.iload_n 2, 1) := by decide +kernel
theorem dX5_refusalOfSending_42 : decode cX5_refusalOfSending 42 = .ok (.invokevirtual 165, 3) := by decide +kernel
theorem dX5_refusalOfSending_45 : decode cX5_refusalOfSending 45 = .ok (.ifCond .eq 16, 3) := by decide +kernel
theorem dX5_refusalOfSending_48 : decode cX5_refusalOfSending 48 = .ok (.aload_n 0, 1) := by decide +kernel
theorem dX5_refusalOfSending_49 : decode cX5_refusalOfSending 49 = .ok (.aload_n 3, 1) := by decide +kernel
theorem dX5_refusalOfSending_50 : decode cX5_refusalOfSending 50 = .ok (.iload_n 2, 1) := by decide +kernel
theorem dX5_refusalOfSending_51 : decode cX5_refusalOfSending 51 = .ok (.invokevirtual 176, 3) := by decide +kernel
theorem dX5_refusalOfSending_54 : decode cX5_refusalOfSending 54 = .ok (.ifCond .eq 7, 3) := by decide +kernel
theorem dX5_refusalOfSending_57 : decode cX5_refusalOfSending 57 = .ok (.iconst 1, 1) := by decide +kernel
theorem dX5_refusalOfSending_58 : decode cX5_refusalOfSending 58 = .ok (.goto 4, 3) := by decide +kernel
theorem dX5_refusalOfSending_61 : decode cX5_refusalOfSending 61 = .ok (.iconst 0, 1) := by decide +kernel
theorem dX5_refusalOfSending_62 : decode cX5_refusalOfSending 62 = .ok (.istore 4, 2) := by decide +kernel
theorem dX5_refusalOfSending_64 : decode cX5_refusalOfSending 64 = .ok (.iload 4, 2) := by decide +kernel
theorem dX5_refusalOfSending_66 : decode cX5_refusalOfSending 66 = .ok (.ifCond .eq 7, 3) := by decide +kernel
theorem dX5_refusalOfSending_69 : decode cX5_refusalOfSending 69 = .ok (.iconst 0, 1) := by decide +kernel
theorem dX5_refusalOfSending_70 : decode cX5_refusalOfSending 70 = .ok (.goto 4, 3) := by decide +kernel
theorem dX5_refusalOfSending_73 : decode cX5_refusalOfSending 73 = .ok (.iconst 3, 1) := by decide +kernel
theorem dX5_refusalOfSending_74 : decode cX5_refusalOfSending 74 = .ok (.ireturn, 1) := by decide +kernel
theorem dX5_refusalOfStamps_0 : decode cX5_refusalOfStamps 0 = .ok (.aload_n 0, 1) := by decide +kernel
theorem dX5_refusalOfStamps_1 : decode cX5_refusalOfStamps 1 = .ok (.iload_n 1, 1) := by decide +kernel
theorem dX5_refusalOfStamps_2 : decode cX5_refusalOfStamps 2 = .ok (.invokevirtual 97, 3) := by decide +kernel
theorem dX5_refusalOfStamps_5 : decode cX5_refusalOfStamps 5 = .ok (.astore_n 3, 1) := by decide +kernel
theorem dX5_refusalOfStamps_6 : decode cX5_refusalOfStamps 6 = .ok (.aload_n 3, 1) := by decide +kernel
theorem dX5_refusalOfStamps_7 : decode cX5_refusalOfStamps 7 = .ok (.ifnonnull 5, 3) := by decide +kernel
theorem dX5_refusalOfStamps_10 : decode cX5_refusalOfStamps 10 = .ok (.iconst 4, 1) := by decide +kernel
theorem dX5_refusalOfStamps_11 : decode cX5_refusalOfStamps 11 = .ok (.ireturn, 1) := by decide +kernel
theorem dX5_refusalOfStamps_12 : decode cX5_refusalOfStamps 12 = .ok (.iload_n 2, 1) := by decide +kernel
theorem dX5_refusalOfStamps_13 : decode cX5_refusalOfStamps 13 = .ok (.iconst 1, 1) := by decide +kernel
theorem dX5_refusalOfStamps_14 : decode cX5_refusalOfStamps 14 = .ok (.bipush 20, 2) := by decide +kernel
theorem dX5_refusalOfStamps_16 : decode cX5_refusalOfStamps 16 = .ok (.invokestatic 80, 3) := by decide +kernel
theorem dX5_refusalOfStamps_19 : decode cX5_refusalOfStamps 19 = .ok (.ifCond .ne 5, 3) := by decide +kernel
theorem dX5_refusalOfStamps_22 : decode cX5_refusalOfStamps 22 = .ok (.iconst 2, 1) := by decide +kernel
theorem dX5_refusalOfStamps_23 : decode cX5_refusalOfStamps 23 = .ok (.ireturn, 1) := by decide +kernel
theorem dX5_refusalOfStamps_24 : decode cX5_refusalOfStamps 24 = .ok (.aload_n 3, 1) := by decide +kernel
theorem dX5_refusalOfStamps_25 : decode cX5_refusalOfStamps 25 = .ok (.getfield 143, 3) := by decide +kernel
theorem dX5_refusalOfStamps_28 : decode cX5_refusalOfStamps 28 = .ok (.iload_n 2, 1) := by decide +kernel
theorem dX5_refusalOfStamps_29 : decode cX5_refusalOfStamps 29 = .ok (.iadd, 1) := by decide +kernel
theorem dX5_refusalOfStamps_30 : decode cX5_refusalOfStamps 30 = .ok (.bipush 20, 2) := by decide +kernel
theorem dX5_refusalOfStamps_32 : decode cX5_refusalOfStamps 32 = .ok (.if_icmp .le 7, 3) := by decide +kernel
theorem dX5_refusalOfStamps_35 : decode cX5_refusalOfStamps 35 = .ok (.iconst 3, 1) := by decide +kernel
theorem dX5_refusalOfStamps_36 : decode cX5_refusalOfStamps 36 = .ok (.goto 4, 3) := by decide +kernel
theorem dX5_refusalOfStamps_39 : decode cX5_refusalOfStamps 39 = .ok (.iconst 0, 1) := by decide +kernel
theorem dX5_refusalOfStamps_40 : decode cX5_refusalOfStamps 40 = .ok (.ireturn, 1) := by decide +kernel
theorem dX5_refusalOfReturn_0 : decode cX5_refusalOfReturn 0 = .ok (.aload_n 0, 1) := by decide +kernel
theorem dX5_refusalOfReturn_1 : decode cX5_refusalOfReturn 1 = .ok (.iload_n 1, 1) := by decide +kernel
theorem dX5_refusalOfReturn_2 : decode cX5_refusalOfReturn 2 = .ok (.invokevirtual 97, 3) := by decide +kernel
theorem dX5_refusalOfReturn_5 : decode cX5_refusalOfReturn 5 = .ok (.astore_n 2, 1) := by decide +kernel
theorem dX5_refusalOfReturn_6 : decode cX5_refusalOfReturn 6 = .ok (.aload_n 2, 1) := by decide +kernel
theorem dX5_refusalOfReturn_7 : decode cX5_refusalOfReturn 7 = .ok (.ifnonnull 5, 3) := by decide +kernel
theorem dX5_refusalOfReturn_10 : decode cX5_refusalOfReturn 10 = .ok (.iconst 4, 1) := by decide +kernel
theorem dX5_refusalOfReturn_11 : decode cX5_refusalOfReturn 11 = .ok (.ireturn, 1) := by decide +kernel
theorem dX5_refusalOfReturn_12 : decode cX5_refusalOfReturn 12 = .ok (.aload_n 2, 1) := by decide +kernel
theorem dX5_refusalOfReturn_13 : decode cX5_refusalOfReturn 13 = .ok (.invokevirtual 133, 3) := by decide +kernel
theorem dX5_refusalOfReturn_16 : decode cX5_refusalOfReturn 16 = .ok (.ifCond .eq 7, 3) := by decide +kernel
theorem dX5_refusalOfReturn_19 : decode cX5_refusalOfReturn 19 = .ok (.iconst 3, 1) := by decide +kernel
theorem dX5_refusalOfReturn_20 : decode cX5_refusalOfReturn 20 = .ok (.goto 4, 3) := by decide +kernel
theorem dX5_refusalOfReturn_23 : decode cX5_refusalOfReturn 23 = .ok (.iconst 0, 1) := by decide +kernel
theorem dX5_refusalOfReturn_24 : decode cX5_refusalOfReturn 24 = .ok (.ireturn, 1) := by decide +kernel
theorem dX5_canStartOver_0 : decode cX5_canStartOver 0 = .ok (.aload_n 0, 1) := by decide +kernel
theorem dX5_canStartOver_1 : decode cX5_canStartOver 1 = .ok (.getfield 18, 3) := by decide +kernel
theorem dX5_canStartOver_4 : decode cX5_canStartOver 4 = .ok (.getfield 156, 3) := by decide +kernel
theorem dX5_canStartOver_7 : decode cX5_canStartOver 7 = .ok (.iload_n 2, 1) := by decide +kernel
theorem dX5_canStartOver_8 : decode cX5_canStartOver 8 = .ok (.aaload, 1) := by decide +kernel
theorem dX5_canStartOver_9 : decode cX5_canStartOver 9 = .ok (.getfield 194, 3) := by decide +kernel
theorem dX5_canStartOver_12 : decode cX5_canStartOver 12 = .ok (.aload_n 1, 1) := by decide +kernel
theorem dX5_canStartOver_13 : decode cX5_canStartOver 13 = .ok (.getfield 137, 3) := by decide +kernel
theorem dX5_canStartOver_16 : decode cX5_canStartOver 16 = .ok (.if_icmp .ne 26, 3) := by decide +kernel
theorem dX5_canStartOver_19 : decode cX5_canStartOver 19 = .ok (.aload_n 0, 1) := by decide +kernel
theorem dX5_canStartOver_20 : decode cX5_canStartOver 20 = .ok (.getfield 18, 3) := by decide +kernel
theorem dX5_canStartOver_23 : decode cX5_canStartOver 23 = .ok (.getfield 156, 3) := by decide +kernel
theorem dX5_canStartOver_26 : decode cX5_canStartOver 26 = .ok (.iload_n 2, 1) := by decide +kernel
theorem dX5_canStartOver_27 : decode cX5_canStartOver 27 = .ok (.aaload, 1) := by decide +kernel
theorem dX5_canStartOver_28 : decode cX5_canStartOver 28 = .ok (.aload_n 0, 1) := by decide +kernel
theorem dX5_canStartOver_29 : decode cX5_canStartOver 29 = .ok (.getfield 40, 3) := by decide +kernel
theorem dX5_canStartOver_32 : decode cX5_canStartOver 32 = .ok (.invokevirtual 197, 3) := by decide +kernel
theorem dX5_canStartOver_35 : decode cX5_canStartOver 35 = .ok (.ifCond .eq 7, 3) := by decide +kernel
theorem dX5_canStartOver_38 : decode cX5_canStartOver 38 = .ok (.iconst 1, 1) := by decide +kernel
theorem dX5_canStartOver_39 : decode cX5_canStartOver 39 = .ok (.goto 4, 3) := by decide +kernel
theorem dX5_canStartOver_42 : decode cX5_canStartOver 42 = .ok (.iconst 0, 1) := by decide +kernel
theorem dX5_canStartOver_43 : decode cX5_canStartOver 43 = .ok (.ireturn, 1) := by decide +kernel
theorem dX5_hasRoomFor_0 : decode cX5_hasRoomFor 0 = .ok (.aload_n 0, 1) := by decide +kernel
theorem dX5_hasRoomFor_1 : decode cX5_hasRoomFor 1 = .ok (.iload_n 2, 1) := by decide +kernel
theorem dX5_hasRoomFor_2 : decode cX5_hasRoomFor 2 = .ok (.invokevirtual 130, 3) := by decide +kernel
theorem dX5_hasRoomFor_5 : decode cX5_hasRoomFor 5 = .ok (.aload_n 1, 1) := by decide +kernel
theorem dX5_hasRoomFor_6 : decode cX5_hasRoomFor 6 = .ok (.getfield 126, 3) := by decide +kernel
theorem dX5_hasRoomFor_9 : decode cX5_hasRoomFor 9 = .ok (.iadd, 1) := by decide +kernel
theorem dX5_hasRoomFor_10 : decode cX5_hasRoomFor 10 = .ok (.bipush 10, 2) := by decide +kernel
theorem dX5_hasRoomFor_12 : decode cX5_hasRoomFor 12 = .ok (.if_icmp .gt 7, 3) := by decide +kernel
theorem dX5_hasRoomFor_15 : decode cX5_hasRoomFor 15 = .ok (.iconst 1, 1) := by decide +kernel
theorem dX5_hasRoomFor_16 : decode cX5_hasRoomFor 16 = .ok (.goto 4, 3) := by decide +kernel
theorem dX5_hasRoomFor_19 : decode cX5_hasRoomFor 19 = .ok (.iconst 0, 1) := by decide +kernel
theorem dX5_hasRoomFor_20 : decode cX5_hasRoomFor 20 = .ok (.ireturn, 1) := by decide +kernel
theorem dX5_putParcel_0 : decode cX5_putParcel 0 = .ok (.aload_n 0, 1) := by decide +kernel
theorem dX5_putParcel_1 : decode cX5_putParcel 1 = .ok (.getfield 33, 3) := by decide +kernel
theorem dX5_putParcel_4 : decode cX5_putParcel 4 = .ok (.bipush 12, 2) := by decide +kernel
theorem dX5_putParcel_6 : decode cX5_putParcel 6 = .ok (.if_icmp .lt 5, 3) := by decide +kernel
theorem dX5_putParcel_9 : decode cX5_putParcel 9 = .ok (.iconst (-1), 1) := by decide +kernel
theorem dX5_putParcel_10 : decode cX5_putParcel 10 = .ok (.ireturn, 1) := by decide +kernel
theorem dX5_putParcel_11 : decode cX5_putParcel 11 = .ok (.aload_n 0, 1) := by decide +kernel
theorem dX5_putParcel_12 : decode cX5_putParcel 12 = .ok (.getfield 24, 3) := by decide +kernel
theorem dX5_putParcel_15 : decode cX5_putParcel 15 = .ok (.aload_n 0, 1) := by decide +kernel
theorem dX5_putParcel_16 : decode cX5_putParcel 16 = .ok (.getfield 33, 3) := by decide +kernel
theorem dX5_putParcel_19 : decode cX5_putParcel 19 = .ok (.aaload, 1) := by decide +kernel
theorem dX5_putParcel_20 : decode cX5_putParcel 20 = .ok (.astore 5, 2) := by decide +kernel
theorem dX5_putParcel_22 : decode cX5_putParcel 22 = .ok (.aload 5, 2) := by decide +kernel
theorem dX5_putParcel_24 : decode cX5_putParcel 24 = .ok (.aload_n 0, 1) := by decide +kernel
theorem dX5_putParcel_25 : decode cX5_putParcel 25 = .ok (.getfield 43, 3) := by decide +kernel
theorem dX5_putParcel_28 : decode cX5_putParcel 28 = .ok (.putfield 200, 3) := by decide +kernel
theorem dX5_putParcel_31 : decode cX5_putParcel 31 = .ok (.aload 5, 2) := by decide +kernel
theorem dX5_putParcel_33 : decode cX5_putParcel 33 = .ok (.iload_n 3, 1) := by decide +kernel
theorem dX5_putParcel_34 : decode cX5_putParcel 34 = .ok (.putfield 126, 3) := by decide +kernel
theorem dX5_putParcel_37 : decode cX5_putParcel 37 = .ok (.aload 5, 2) := by decide +kernel
theorem dX5_putParcel_39 : decode cX5_putParcel 39 = .ok (.iload 4, 2) := by decide +kernel
theorem dX5_putParcel_41 : decode cX5_putParcel 41 = .ok (.putfield 143, 3) := by decide +kernel
theorem dX5_putParcel_44 : decode cX5_putParcel 44 = .ok (.aload 5, 2) := by decide +kernel
theorem dX5_putParcel_46 : decode cX5_putParcel 46 = .ok (.iload_n 2, 1) := by decide +kernel
theorem dX5_putParcel_47 : decode cX5_putParcel 47 = .ok (.putfield 146, 3) := by decide +kernel
theorem dX5_putParcel_50 : decode cX5_putParcel 50 = .ok (.aload 5, 2) := by decide +kernel
theorem dX5_putParcel_52 : decode cX5_putParcel 52 = .ok (.iload_n 1, 1) := by decide +kernel
theorem dX5_putParcel_53 : decode cX5_putParcel 53 = .ok (.putfield 137, 3) := by decide +kernel
theorem dX5_putParcel_56 : decode cX5_putParcel 56 = .ok (.aload 5, 2) := by decide +kernel
theorem dX5_putParcel_58 : decode cX5_putParcel 58 = .ok (.iconst (-1), 1) := by decide +kernel
theorem dX5_putParcel_59 : decode cX5_putParcel 59 = .ok (.putfield 123, 3) := by decide +kernel
theorem dX5_putParcel_62 : decode cX5_putParcel 62 = .ok (.aload 5, 2) := by decide +kernel
theorem dX5_putParcel_64 : decode cX5_putParcel 64 = .ok (.iconst (-1), 1) := by decide +kernel
theorem dX5_putParcel_65 : decode cX5_putParcel 65 = .ok (.putfield 140, 3) := by decide +kernel
theorem dX5_putParcel_68 : decode cX5_putParcel 68 = .ok (.aload_n 0, 1) := by decide +kernel
theorem dX5_putParcel_69 : decode cX5_putParcel 69 = .ok (.dup, 1) := by decide +kernel
theorem dX5_putParcel_70 : decode cX5_putParcel 70 = .ok (.getfield 33, 3) := by decide +kernel
theorem dX5_putParcel_73 : decode cX5_putParcel 73 = .ok (.iconst 1, 1) := by decide +kernel
theorem dX5_putParcel_74 : decode cX5_putParcel 74 = .ok (.iadd, 1) := by decide +kernel
theorem dX5_putParcel_75 : decode cX5_putParcel 75 = .ok (.putfield 33, 3) := by decide +kernel
theorem dX5_putParcel_78 : decode cX5_putParcel 78 = .ok (.aload_n 0, 1) := by decide +kernel
theorem dX5_putParcel_79 : decode cX5_putParcel 79 = .ok (.dup, 1) := by decide +kernel
theorem dX5_putParcel_80 : decode cX5_putParcel 80 = .ok (.getfield 43, 3) := by decide +kernel
theorem dX5_putParcel_83 : decode cX5_putParcel 83 = .ok (.iconst 1, 1) := by decide +kernel
theorem dX5_putParcel_84 : decode cX5_putParcel 84 = .ok (.iadd, 1) := by decide +kernel
theorem dX5_putParcel_85 : decode cX5_putParcel 85 = .ok (.putfield 43, 3) := by decide +kernel
theorem dX5_putParcel_88 : decode cX5_putParcel 88 = .ok (.aload 5, 2) := by decide +kernel
theorem dX5_putParcel_90 : decode cX5_putParcel 90 = .ok (.getfield 200, 3) := by decide +kernel
theorem dX5_putParcel_93 : decode cX5_putParcel 93 = .ok (.ireturn, 1) := by decide +kernel
theorem dX5_sendOver_0 : decode cX5_sendOver 0 = .ok (.aload_n 1, 1) := by decide +kernel
theorem dX5_sendOver_1 : decode cX5_sendOver 1 = .ok (.ifnull 14, 3) := by decide +kernel
theorem dX5_sendOver_4 : decode cX5_sendOver 4 = .ok (.aload_n 0, 1) := by decide +kernel
theorem dX5_sendOver_5 : decode cX5_sendOver 5 = .ok (.getfield 18, 3) := by decide +kernel
theorem dX5_sendOver_8 : decode cX5_sendOver 8 = .ok (.iload_n 2, 1) := by decide +kernel
theorem dX5_sendOver_9 : decode cX5_sendOver 9 = .ok (.invokevirtual 187, 3) := by decide +kernel
theorem dX5_sendOver_12 : decode cX5_sendOver 12 = .ok (.ifCond .ne 5, 3) := by decide +kernel
theorem dX5_sendOver_15 : decode cX5_sendOver 15 = .ok (.iconst (-1), 1) := by decide +kernel
theorem dX5_sendOver_16 : decode cX5_sendOver 16 = .ok (.ireturn, 1) := by decide +kernel
theorem dX5_sendOver_17 : decode cX5_sendOver 17 = .ok (.aload_n 1, 1) := by decide +kernel
theorem dX5_sendOver_18 : decode cX5_sendOver 18 = .ok (.dup, 1) := by decide +kernel
theorem dX5_sendOver_19 : decode cX5_sendOver 19 = .ok (.getfield 143, 3) := by decide +kernel
theorem dX5_sendOver_22 : decode cX5_sendOver 22 = .ok (.iconst 1, 1) := by decide +kernel
theorem dX5_sendOver_23 : decode cX5_sendOver 23 = .ok (.isub, 1) := by decide +kernel
theorem dX5_sendOver_24 : decode cX5_sendOver 24 = .ok (.putfield 143, 3) := by decide +kernel
theorem dX5_sendOver_27 : decode cX5_sendOver 27 = .ok (.aload_n 0, 1) := by decide +kernel
theorem dX5_sendOver_28 : decode cX5_sendOver 28 = .ok (.dup, 1) := by decide +kernel
theorem dX5_sendOver_29 : decode cX5_sendOver 29 = .ok (.getfield 52, 3) := by decide +kernel
theorem dX5_sendOver_32 : decode cX5_sendOver 32 = .ok (.iconst 1, 1) := by decide +kernel
theorem dX5_sendOver_33 : decode cX5_sendOver 33 = .ok (.iadd, 1) := by decide +kernel
theorem dX5_sendOver_34 : decode cX5_sendOver 34 = .ok (.putfield 52, 3) := by decide +kernel
theorem dX5_sendOver_37 : decode cX5_sendOver 37 = .ok (.aload_n 1, 1) := by decide +kernel
theorem dX5_sendOver_38 : decode cX5_sendOver 38 = .ok (.iload_n 2, 1) := by decide +kernel
theorem dX5_sendOver_39 : decode cX5_sendOver 39 = .ok (.putfield 123, 3) := by decide +kernel
theorem dX5_sendOver_42 : decode cX5_sendOver 42 = .ok (.aload_n 1, 1) := by decide +kernel
theorem dX5_sendOver_43 : decode cX5_sendOver 43 = .ok (.aload_n 0, 1) := by decide +kernel
theorem dX5_sendOver_44 : decode cX5_sendOver 44 = .ok (.getfield 18, 3) := by decide +kernel
theorem dX5_sendOver_47 : decode cX5_sendOver 47 = .ok (.getfield 156, 3) := by decide +kernel
theorem dX5_sendOver_50 : decode cX5_sendOver 50 = .ok (.iload_n 2, 1) := by decide +kernel
theorem dX5_sendOver_51 : decode cX5_sendOver 51 = .ok (.aaload, 1) := by decide +kernel
theorem dX5_sendOver_52 : decode cX5_sendOver 52 = .ok (.getfield 169, 3) := by decide +kernel
theorem dX5_sendOver_55 : decode cX5_sendOver 55 = .ok (.putfield 137, 3) := by decide +kernel
theorem dX5_sendOver_58 : decode cX5_sendOver 58 = .ok (.aload_n 1, 1) := by decide +kernel
theorem dX5_sendOver_59 : decode cX5_sendOver 59 = .ok (.aload_n 0, 1) := by decide +kernel
theorem dX5_sendOver_60 : decode cX5_sendOver 60 = .ok (.getfield 40, 3) := by decide +kernel
theorem dX5_sendOver_63 : decode cX5_sendOver 63 = .ok (.aload_n 0, 1) := by decide +kernel
theorem dX5_sendOver_64 : decode cX5_sendOver 64 = .ok (.getfield 18, 3) := by decide +kernel
theorem dX5_sendOver_67 : decode cX5_sendOver 67 = .ok (.getfield 156, 3) := by decide +kernel
theorem dX5_sendOver_70 : decode cX5_sendOver 70 = .ok (.iload_n 2, 1) := by decide +kernel
theorem dX5_sendOver_71 : decode cX5_sendOver 71 = .ok (.aaload, 1) := by decide +kernel
theorem dX5_sendOver_72 : decode cX5_sendOver 72 = .ok (.getfield 160, 3) := by decide +kernel
theorem dX5_sendOver_75 : decode cX5_sendOver 75 = .ok (.iadd, 1) := by decide +kernel
theorem dX5_sendOver_76 : decode cX5_sendOver 76 = .ok (.putfield 140, 3) := by decide +kernel
theorem dX5_sendOver_79 : decode cX5_sendOver 79 = .ok (.aload_n 1, 1) := by decide +kernel
theorem dX5_sendOver_80 : decode cX5_sendOver 80 = .ok (.getfield 140, 3) := by decide +kernel
theorem dX5_sendOver_83 : decode cX5_sendOver 83 = .ok (.ireturn, 1) := by decide +kernel
theorem dX5_putStamps_0 : decode cX5_putStamps 0 = .ok (.aload_n 0, 1) := by decide +kernel
theorem dX5_putStamps_1 : decode cX5_putStamps 1 = .ok (.ifnonnull 5, 3) := by decide +kernel
theorem dX5_putStamps_4 : decode cX5_putStamps 4 = .ok (.iconst (-1), 1) := by decide +kernel
theorem dX5_putStamps_5 : decode cX5_putStamps 5 = .ok (.ireturn, 1) := by decide +kernel
theorem dX5_putStamps_6 : decode cX5_putStamps 6 = .ok (.aload_n 0, 1) := by decide +kernel
theorem dX5_putStamps_7 : decode cX5_putStamps 7 = .ok (.dup, 1) := by decide +kernel
theorem dX5_putStamps_8 : decode cX5_putStamps 8 = .ok (.getfield 143, 3) := by decide +kernel
theorem dX5_putStamps_11 : decode cX5_putStamps 11 = .ok (.iload_n 1, 1) := by decide +kernel
theorem dX5_putStamps_12 : decode cX5_putStamps 12 = .ok (.iadd, 1) := by decide +kernel
theorem dX5_putStamps_13 : decode cX5_putStamps 13 = .ok (.putfield 143, 3) := by decide +kernel
theorem dX5_putStamps_16 : decode cX5_putStamps 16 = .ok (.aload_n 0, 1) := by decide +kernel
theorem dX5_putStamps_17 : decode cX5_putStamps 17 = .ok (.getfield 143, 3) := by decide +kernel
theorem dX5_putStamps_20 : decode cX5_putStamps 20 = .ok (.ireturn, 1) := by decide +kernel
theorem dX5_giveBack_0 : decode cX5_giveBack 0 = .ok (.aload_n 0, 1) := by decide +kernel
theorem dX5_giveBack_1 : decode cX5_giveBack 1 = .ok (.iload_n 1, 1) := by decide +kernel
theorem dX5_giveBack_2 : decode cX5_giveBack 2 = .ok (.invokevirtual 120, 3) := by decide +kernel
theorem dX5_giveBack_5 : decode cX5_giveBack 5 = .ok (.istore_n 2, 1) := by decide +kernel
theorem dX5_giveBack_6 : decode cX5_giveBack 6 = .ok (.iload_n 2, 1) := by decide +kernel
theorem dX5_giveBack_7 : decode cX5_giveBack 7 = .ok (.iconst (-1), 1) := by decide +kernel
theorem dX5_giveBack_8 : decode cX5_giveBack 8 = .ok (.if_icmp .ne 5, 3) := by decide +kernel
theorem dX5_giveBack_11 : decode cX5_giveBack 11 = .ok (.iconst (-1), 1) := by decide +kernel
theorem dX5_giveBack_12 : decode cX5_giveBack 12 = .ok (.ireturn, 1) := by decide +kernel
theorem dX5_giveBack_13 : decode cX5_giveBack 13 = .ok (.aload_n 0, 1) := by decide +kernel
theorem dX5_giveBack_14 : decode cX5_giveBack 14 = .ok (.getfield 24, 3) := by decide +kernel
theorem dX5_giveBack_17 : decode cX5_giveBack 17 = .ok (.iload_n 2, 1) := by decide +kernel
theorem dX5_giveBack_18 : decode cX5_giveBack 18 = .ok (.aaload, 1) := by decide +kernel
theorem dX5_giveBack_19 : decode cX5_giveBack 19 = .ok (.getfield 143, 3) := by decide +kernel
theorem dX5_giveBack_22 : decode cX5_giveBack 22 = .ok (.istore_n 3, 1) := by decide +kernel
theorem dX5_giveBack_23 : decode cX5_giveBack 23 = .ok (.aload_n 0, 1) := by decide +kernel
theorem dX5_giveBack_24 : decode cX5_giveBack 24 = .ok (.iload_n 2, 1) := by decide +kernel
theorem dX5_giveBack_25 : decode cX5_giveBack 25 = .ok (.invokevirtual 179, 3) := by decide +kernel
theorem dX5_giveBack_28 : decode cX5_giveBack 28 = .ok (.aload_n 0, 1) := by decide +kernel
theorem dX5_giveBack_29 : decode cX5_giveBack 29 = .ok (.dup, 1) := by decide +kernel
theorem dX5_giveBack_30 : decode cX5_giveBack 30 = .ok (.getfield 49, 3) := by decide +kernel
theorem dX5_giveBack_33 : decode cX5_giveBack 33 = .ok (.iconst 1, 1) := by decide +kernel
theorem dX5_giveBack_34 : decode cX5_giveBack 34 = .ok (.iadd, 1) := by decide +kernel
theorem dX5_giveBack_35 : decode cX5_giveBack 35 = .ok (.putfield 49, 3) := by decide +kernel
theorem dX5_giveBack_38 : decode cX5_giveBack 38 = .ok (.iload_n 3, 1) := by decide +kernel
theorem dX5_giveBack_39 : decode cX5_giveBack 39 = .ok (.ireturn, 1) := by decide +kernel
theorem dX5_letHoursPass_0 : decode cX5_letHoursPass 0 = .ok (.iconst 0, 1) := by decide +kernel
theorem dX5_letHoursPass_1 : decode cX5_letHoursPass 1 = .ok (.istore_n 2, 1) := by decide +kernel
theorem dX5_letHoursPass_2 : decode cX5_letHoursPass 2 = .ok (.iconst 0, 1) := by decide +kernel
theorem dX5_letHoursPass_3 : decode cX5_letHoursPass 3 = .ok (.istore_n 3, 1) := by decide +kernel
theorem dX5_letHoursPass_4 : decode cX5_letHoursPass 4 = .ok (.iload_n 3, 1) := by decide +kernel
theorem dX5_letHoursPass_5 : decode cX5_letHoursPass 5 = .ok (.iload_n 1, 1) := by decide +kernel
theorem dX5_letHoursPass_6 : decode cX5_letHoursPass 6 = .ok (.if_icmp .ge 16, 3) := by decide +kernel
theorem dX5_letHoursPass_9 : decode cX5_letHoursPass 9 = .ok (.iload_n 2, 1) := by decide +kernel
theorem dX5_letHoursPass_10 : decode cX5_letHoursPass 10 = .ok (.aload_n 0, 1) := by decide +kernel
theorem dX5_letHoursPass_11 : decode cX5_letHoursPass 11 = .ok (.invokevirtual 117, 3) := by decide +kernel
theorem dX5_letHoursPass_14 : decode cX5_letHoursPass 14 = .ok (.iadd, 1) := by decide +kernel
theorem dX5_letHoursPass_15 : decode cX5_letHoursPass 15 = .ok (.istore_n 2, 1) := by decide +kernel
theorem dX5_letHoursPass_16 : decode cX5_letHoursPass 16 = .ok (.iinc 3 1, 3) := by decide +kernel
theorem dX5_letHoursPass_19 : decode cX5_letHoursPass 19 = .ok (.goto (-15), 3) := by decide +kernel
theorem dX5_letHoursPass_22 : decode cX5_letHoursPass 22 = .ok (.iload_n 2, 1) := by decide +kernel
theorem dX5_letHoursPass_23 : decode cX5_letHoursPass 23 = .ok (.ireturn, 1) := by decide +kernel
theorem dX5_positionOf_0 : decode cX5_positionOf 0 = .ok (.iconst 0, 1) := by decide +kernel
theorem dX5_positionOf_1 : decode cX5_positionOf 1 = .ok (.istore_n 2, 1) := by decide +kernel
theorem dX5_positionOf_2 : decode cX5_positionOf 2 = .ok (.iload_n 2, 1) := by decide +kernel
theorem dX5_positionOf_3 : decode cX5_positionOf 3 = .ok (.aload_n 0, 1) := by decide +kernel
theorem dX5_positionOf_4 : decode cX5_positionOf 4 = .ok (.getfield 33, 3) := by decide +kernel
theorem dX5_positionOf_7 : decode cX5_positionOf 7 = .ok (.if_icmp .ge 24, 3) := by decide +kernel
theorem dX5_positionOf_10 : decode cX5_positionOf 10 = .ok (.aload_n 0, 1) := by decide +kernel
theorem dX5_positionOf_11 : decode cX5_positionOf 11 = .ok (.getfield 24, 3) := by decide +kernel
theorem dX5_positionOf_14 : decode cX5_positionOf 14 = .ok (.iload_n 2, 1) := by decide +kernel
theorem dX5_positionOf_15 : decode cX5_positionOf 15 = .ok (.aaload, 1) := by decide +kernel
theorem dX5_positionOf_16 : decode cX5_positionOf 16 = .ok (.getfield 200, 3) := by decide +kernel
theorem dX5_positionOf_19 : decode cX5_positionOf 19 = .ok (.iload_n 1, 1) := by decide +kernel
theorem dX5_positionOf_20 : decode cX5_positionOf 20 = .ok (.if_icmp .ne 5, 3) := by decide +kernel
theorem dX5_positionOf_23 : decode cX5_positionOf 23 = .ok (.iload_n 2, 1) := by decide +kernel
theorem dX5_positionOf_24 : decode cX5_positionOf 24 = .ok (.ireturn, 1) := by decide +kernel
theorem dX5_positionOf_25 : decode cX5_positionOf 25 = .ok (.iinc 2 1, 3) := by decide +kernel
theorem dX5_positionOf_28 : decode cX5_positionOf 28 = .ok (.goto (-26), 3) := by decide +kernel
theorem dX5_positionOf_31 : decode cX5_positionOf 31 = .ok (.iconst (-1), 1) := by decide +kernel
theorem dX5_positionOf_32 : decode cX5_positionOf 32 = .ok (.ireturn, 1) := by decide +kernel
theorem dX5_removeAt_0 : decode cX5_removeAt 0 = .ok (.aload_n 0, 1) := by decide +kernel
theorem dX5_removeAt_1 : decode cX5_removeAt 1 = .ok (.getfield 24, 3) := by decide +kernel
theorem dX5_removeAt_4 : decode cX5_removeAt 4 = .ok (.iload_n 1, 1) := by decide +kernel
theorem dX5_removeAt_5 : decode cX5_removeAt 5 = .ok (.aaload, 1) := by decide +kernel
theorem dX5_removeAt_6 : decode cX5_removeAt 6 = .ok (.astore_n 2, 1) := by decide +kernel
theorem dX5_removeAt_7 : decode cX5_removeAt 7 = .ok (.iload_n 1, 1) := by decide +kernel
theorem dX5_removeAt_8 : decode cX5_removeAt 8 = .ok (.istore_n 3, 1) := by decide +kernel
theorem dX5_removeAt_9 : decode cX5_removeAt 9 = .ok (.iload_n 3, 1) := by decide +kernel
theorem dX5_removeAt_10 : decode cX5_removeAt 10 = .ok (.iconst 1, 1) := by decide +kernel
theorem dX5_removeAt_11 : decode cX5_removeAt 11 = .ok (.iadd, 1) := by decide +kernel
theorem dX5_removeAt_12 : decode cX5_removeAt 12 = .ok (.aload_n 0, 1) := by decide +kernel
theorem dX5_removeAt_13 : decode cX5_removeAt 13 = .ok (.getfield 33, 3) := by decide +kernel
theorem dX5_removeAt_16 : decode cX5_removeAt 16 = .ok (.if_icmp .ge 23, 3) := by decide +kernel
theorem dX5_removeAt_19 : decode cX5_removeAt 19 = .ok (.aload_n 0, 1) := by decide +kernel
theorem dX5_removeAt_20 : decode cX5_removeAt 20 = .ok (.getfield 24, 3) := by decide +kernel
theorem dX5_removeAt_23 : decode cX5_removeAt 23 = .ok (.iload_n 3, 1) := by decide +kernel
theorem dX5_removeAt_24 : decode cX5_removeAt 24 = .ok (.aload_n 0, 1) := by decide +kernel
theorem dX5_removeAt_25 : decode cX5_removeAt 25 = .ok (.getfield 24, 3) := by decide +kernel
theorem dX5_removeAt_28 : decode cX5_removeAt 28 = .ok (.iload_n 3, 1) := by decide +kernel
theorem dX5_removeAt_29 : decode cX5_removeAt 29 = .ok (.iconst 1, 1) := by decide +kernel
theorem dX5_removeAt_30 : decode cX5_removeAt 30 = .ok (.iadd, 1) := by decide +kernel
theorem dX5_removeAt_31 : decode cX5_removeAt 31 = .ok (.aaload, 1) := by decide +kernel
theorem dX5_removeAt_32 : decode cX5_removeAt 32 = .ok (.aastore, 1) := by decide +kernel
theorem dX5_removeAt_33 : decode cX5_removeAt 33 = .ok (.iinc 3 1, 3) := by decide +kernel
theorem dX5_removeAt_36 : decode cX5_removeAt 36 = .ok (.goto (-27), 3) := by decide +kernel
theorem dX5_removeAt_39 : decode cX5_removeAt 39 = .ok (.aload_n 0, 1) := by decide +kernel
theorem dX5_removeAt_40 : decode cX5_removeAt 40 = .ok (.getfield 24, 3) := by decide +kernel
theorem dX5_removeAt_43 : decode cX5_removeAt 43 = .ok (.aload_n 0, 1) := by decide +kernel
theorem dX5_removeAt_44 : decode cX5_removeAt 44 = .ok (.getfield 33, 3) := by decide +kernel
theorem dX5_removeAt_47 : decode cX5_removeAt 47 = .ok (.iconst 1, 1) := by decide +kernel
theorem dX5_removeAt_48 : decode cX5_removeAt 48 = .ok (.isub, 1) := by decide +kernel
theorem dX5_removeAt_49 : decode cX5_removeAt 49 = .ok (.aload_n 2, 1) := by decide +kernel
theorem dX5_removeAt_50 : decode cX5_removeAt 50 = .ok (.aastore, 1) := by decide +kernel
theorem dX5_removeAt_51 : decode cX5_removeAt 51 = .ok (.aload_n 0, 1) := by decide +kernel
theorem dX5_removeAt_52 : decode cX5_removeAt 52 = .ok (.dup, 1) := by decide +kernel
theorem dX5_removeAt_53 : decode cX5_removeAt 53 = .ok (.getfield 33, 3) := by decide +kernel
theorem dX5_removeAt_56 : decode cX5_removeAt 56 = .ok (.iconst 1, 1) := by decide +kernel
theorem dX5_removeAt_57 : decode cX5_removeAt 57 = .ok (.isub, 1) := by decide +kernel
theorem dX5_removeAt_58 : decode cX5_removeAt 58 = .ok (.putfield 33, 3) := by decide +kernel
theorem dX5_removeAt_61 : decode cX5_removeAt 61 = .ok (.return_, 1) := by decide +kernel
theorem dX6_init_0 : decode cX6_init 0 = .ok (.aload_n 0, 1) := by decide +kernel
theorem dX6_init_1 : decode cX6_init 1 = .ok (.invokespecial 3, 3) := by decide +kernel
theorem dX6_init_4 : decode cX6_init 4 = .ok (.aload_n 0, 1) := by decide +kernel
theorem dX6_init_5 : decode cX6_init 5 = .ok (.bipush 9, 2) := by decide +kernel
theorem dX6_init_7 : decode cX6_init 7 = .ok (.newarray .int, 2) := by decide +kernel
theorem dX6_init_9 : decode cX6_init 9 = .ok (.putfield 9, 3) := by decide +kernel
theorem dX6_init_12 : decode cX6_init 12 = .ok (.aload_n 0, 1) := by decide +kernel
theorem dX6_init_13 : decode cX6_init 13 = .ok (.bipush 9, 2) := by decide +kernel
theorem dX6_init_15 : decode cX6_init 15 = .ok (.newarray .boolean, 2) := by decide +kernel
theorem dX6_init_17 : decode cX6_init 17 = .ok (.putfield 15, 3) := by decide +kernel
theorem dX6_init_20 : decode cX6_init 20 = .ok (.aload_n 0, 1) := by decide +kernel
theorem dX6_init_21 : decode cX6_init 21 = .ok (.bipush 9, 2) := by decide +kernel
theorem dX6_init_23 : decode cX6_init 23 = .ok (.newarray .int, 2) := by decide +kernel
theorem dX6_init_25 : decode cX6_init 25 = .ok (.putfield 19, 3) := by decide +kernel
theorem dX6_init_28 : decode cX6_init 28 = .ok (.return_, 1) := by decide +kernel
theorem dX6_arrivalBySettling_0 : decode cX6_arrivalBySettling 0 = .ok (.aload_n 0, 1) := by decide +kernel
theorem dX6_arrivalBySettling_1 : decode cX6_arrivalBySettling 1 = .ok (.iload_n 2, 1) := by decide +kernel
theorem dX6_arrivalBySettling_2 : decode cX6_arrivalBySettling 2 = .ok (.iload 4, 2) := by decide +kernel
theorem dX6_arrivalBySettling_4 : decode cX6_arrivalBySettling 4 = .ok (.invokevirtual 22, 3) := by decide +kernel
theorem dX6_arrivalBySettling_7 : decode cX6_arrivalBySettling 7 = .ok (.iconst 0, 1) := by decide +kernel
theorem dX6_arrivalBySettling_8 : decode cX6_arrivalBySettling 8 = .ok (.istore 5, 2) := by decide +kernel
theorem dX6_arrivalBySettling_10 : decode cX6_arrivalBySettling 10 = .ok (.iload 5, 2) := by decide +kernel
theorem dX6_arrivalBySettling_12 : decode cX6_arrivalBySettling 12 = .ok (.aload_n 1, 1) := by decide +kernel
theorem dX6_arrivalBySettling_13 : decode cX6_arrivalBySettling 13 = .ok (.getfield 26, 3) := by decide +kernel
theorem dX6_arrivalBySettling_16 : decode cX6_arrivalBySettling 16 = .ok (.if_icmp .ge 46, 3) := by decide +kernel
theorem dX6_arrivalBySettling_19 : decode cX6_arrivalBySettling 19 = .ok (.aload_n 0, 1) := by decide +kernel
theorem dX6_arrivalBySettling_20 : decode cX6_arrivalBySettling 20 = .ok (.aload_n 1, 1) := by decide +kernel
theorem dX6_arrivalBySettling_21 : decode cX6_arrivalBySettling 21 = .ok (.invokevirtual 32, 3) := by decide +kernel
theorem dX6_arrivalBySettling_24 : decode cX6_arrivalBySettling 24 = .ok (.istore 6, 2) := by decide +kernel
theorem dX6_arrivalBySettling_26 : decode cX6_arrivalBySettling 26 = .ok (.iload 6, 2) := by decide +kernel
theorem dX6_arrivalBySettling_28 : decode cX6_arrivalBySettling 28 = .ok (.iconst (-1), 1) := by decide +kernel
theorem dX6_arrivalBySettling_29 : decode cX6_arrivalBySettling 29 = .ok (.if_icmp .eq 33, 3) := by decide +kernel
theorem dX6_arrivalBySettling_32 : decode cX6_arrivalBySettling 32 = .ok (.iload 6, 2) := by decide +kernel
theorem dX6_arrivalBySettling_34 : decode cX6_arrivalBySettling 34 = .ok (.iload_n 3, 1) := by decide +kernel
theorem dX6_arrivalBySettling_35 : decode cX6_arrivalBySettling 35 = .ok (.if_icmp .ne 6, 3) := by decide +kernel
theorem dX6_arrivalBySettling_38 : decode cX6_arrivalBySettling 38 = .ok (.goto 24, 3) := by decide +kernel
theorem dX6_arrivalBySettling_41 : decode cX6_arrivalBySettling 41 = .ok (.aload_n 0, 1) := by decide +kernel
theorem dX6_arrivalBySettling_42 : decode cX6_arrivalBySettling 42 = .ok (.getfield 15, 3) := by decide +kernel
theorem dX6_arrivalBySettling_45 : decode cX6_arrivalBySettling 45 = .ok (.iload 6, 2) := by decide +kernel
theorem dX6_arrivalBySettling_47 : decode cX6_arrivalBySettling 47 = .ok (.iconst 1, 1) := by decide +kernel
theorem dX6_arrivalBySettling_48 : decode cX6_arrivalBySettling 48 = .ok (.bastore, 1) := by decide +kernel
theorem dX6_arrivalBySettling_49 : decode cX6_arrivalBySettling 49 = .ok (.aload_n 0, 1) := by decide +kernel
theorem dX6_arrivalBySettling_50 : decode cX6_arrivalBySettling 50 = .ok (.aload_n 1, 1) := by decide +kernel
theorem dX6_arrivalBySettling_51 : decode cX6_arrivalBySettling 51 = .ok (.iload 6, 2) := by decide +kernel
theorem dX6_arrivalBySettling_53 : decode cX6_arrivalBySettling 53 = .ok (.invokevirtual 36, 3) := by decide +kernel
theorem dX6_arrivalBySettling_56 : decode cX6_arrivalBySettling 56 = .ok (.iinc 5 1, 3) := by decide +kernel
theorem dX6_arrivalBySettling_59 : decode cX6_arrivalBySettling 59 = .ok (.goto (-49), 3) := by decide +kernel
theorem dX6_arrivalBySettling_62 : decode cX6_arrivalBySettling 62 = .ok (.aload_n 0, 1) := by decide +kernel
theorem dX6_arrivalBySettling_63 : decode cX6_arrivalBySettling 63 = .ok (.getfield 9, 3) := by decide +kernel
theorem dX6_arrivalBySettling_66 : decode cX6_arrivalBySettling 66 = .ok (.iload_n 3, 1) := by decide +kernel
theorem dX6_arrivalBySettling_67 : decode cX6_arrivalBySettling 67 = .ok (.iaload, 1) := by decide +kernel
theorem dX6_arrivalBySettling_68 : decode cX6_arrivalBySettling 68 = .ok (.ireturn, 1) := by decide +kernel
theorem dX6_arrivalHourByHour_0 : decode cX6_arrivalHourByHour 0 = .ok (.aload_n 0, 1) := by decide +kernel
theorem dX6_arrivalHourByHour_1 : decode cX6_arrivalHourByHour 1 = .ok (.iload_n 2, 1) := by decide +kernel
theorem dX6_arrivalHourByHour_2 : decode cX6_arrivalHourByHour 2 = .ok (.iload 4, 2) := by decide +kernel
theorem dX6_arrivalHourByHour_4 : decode cX6_arrivalHourByHour 4 = .ok (.invokevirtual 22, 3) := by decide +kernel
theorem dX6_arrivalHourByHour_7 : decode cX6_arrivalHourByHour 7 = .ok (.iconst 0, 1) := by decide +kernel
theorem dX6_arrivalHourByHour_8 : decode cX6_arrivalHourByHour 8 = .ok (.istore 5, 2) := by decide +kernel
theorem dX6_arrivalHourByHour_10 : decode cX6_arrivalHourByHour 10 = .ok (.iload 5, 2) := by decide +kernel
theorem dX6_arrivalHourByHour_12 : decode cX6_arrivalHourByHour 12 = .ok (.bipush 80, 2) := by decide +kernel
theorem dX6_arrivalHourByHour_14 : decode cX6_arrivalHourByHour 14 = .ok (.if_icmp .gt 40, 3) := by decide +kernel
theorem dX6_arrivalHourByHour_17 : decode cX6_arrivalHourByHour 17 = .ok (.aload_n 0, 1) := by decide +kernel
theorem dX6_arrivalHourByHour_18 : decode cX6_arrivalHourByHour 18 = .ok (.getfield 9, 3) := by decide +kernel
theorem dX6_arrivalHourByHour_21 : decode cX6_arrivalHourByHour 21 = .ok (.iload_n 3, 1) := by decide +kernel
theorem dX6_arrivalHourByHour_22 : decode cX6_arrivalHourByHour 22 = .ok (.iaload, 1) := by decide +kernel
theorem dX6_arrivalHourByHour_23 : decode cX6_arrivalHourByHour 23 = .ok (.iload 4, 2) := by decide +kernel
theorem dX6_arrivalHourByHour_25 : decode cX6_arrivalHourByHour 25 = .ok (.iload 5, 2) := by decide +kernel
theorem dX6_arrivalHourByHour_27 : decode cX6_arrivalHourByHour 27 = .ok (.iadd, 1) := by decide +kernel
theorem dX6_arrivalHourByHour_28 : decode cX6_arrivalHourByHour 28 = .ok (.if_icmp .ne 10, 3) := by decide +kernel
theorem dX6_arrivalHourByHour_31 : decode cX6_arrivalHourByHour 31 = .ok (.aload_n 0, 1) := by decide +kernel
theorem dX6_arrivalHourByHour_32 : decode cX6_arrivalHourByHour 32 = .ok (.getfield 9, 3) := by decide +kernel
theorem dX6_arrivalHourByHour_35 : decode cX6_arrivalHourByHour 35 = .ok (.iload_n 3, 1) := by decide +kernel
theorem dX6_arrivalHourByHour_36 : decode cX6_arrivalHourByHour 36 = .ok (.iaload, 1) := by decide +kernel
theorem dX6_arrivalHourByHour_37 : decode cX6_arrivalHourByHour 37 = .ok (.ireturn, 1) := by decide +kernel
theorem dX6_arrivalHourByHour_38 : decode cX6_arrivalHourByHour 38 = .ok (.aload_n 0, 1) := by decide +kernel
theorem dX6_arrivalHourByHour_39 : decode cX6_arrivalHourByHour 39 = .ok (.aload_n 1, 1) := by decide +kernel
theorem dX6_arrivalHourByHour_40 : decode cX6_arrivalHourByHour 40 = .ok (.iload 4, 2) := by decide +kernel
theorem dX6_arrivalHourByHour_42 : decode cX6_arrivalHourByHour 42 = .ok (.iload 5, 2) := by decide +kernel
theorem dX6_arrivalHourByHour_44 : decode cX6_arrivalHourByHour 44 = .ok (.iadd, 1) := by decide +kernel
theorem dX6_arrivalHourByHour_45 : decode cX6_arrivalHourByHour 45 = .ok (.invokevirtual 40, 3) := by decide +kernel
theorem dX6_arrivalHourByHour_48 : decode cX6_arrivalHourByHour 48 = .ok (.iinc 5 1, 3) := by decide +kernel
theorem dX6_arrivalHourByHour_51 : decode cX6_arrivalHourByHour 51 = .ok (.goto (-41), 3) := by decide +kernel
theorem dX6_arrivalHourByHour_54 : decode cX6_arrivalHourByHour 54 = .ok (.ldc 43, 2) := by decide +kernel
theorem dX6_arrivalHourByHour_56 : decode cX6_arrivalHourByHour 56 = .ok (.ireturn, 1) := by decide +kernel
theorem dX6_stepsBetween_0 : decode cX6_stepsBetween 0 = .ok (.aload_n 0, 1) := by decide +kernel
theorem dX6_stepsBetween_1 : decode cX6_stepsBetween 1 = .ok (.aload_n 1, 1) := by decide +kernel
theorem dX6_stepsBetween_2 : decode cX6_stepsBetween 2 = .ok (.iload_n 2, 1) := by decide +kernel
theorem dX6_stepsBetween_3 : decode cX6_stepsBetween 3 = .ok (.invokevirtual 44, 3) := by decide +kernel
theorem dX6_stepsBetween_6 : decode cX6_stepsBetween 6 = .ok (.pop, 1) := by decide +kernel
theorem dX6_stepsBetween_7 : decode cX6_stepsBetween 7 = .ok (.aload_n 0, 1) := by decide +kernel
theorem dX6_stepsBetween_8 : decode cX6_stepsBetween 8 = .ok (.getfield 19, 3) := by decide +kernel
theorem dX6_stepsBetween_11 : decode cX6_stepsBetween 11 = .ok (.iload_n 3, 1) := by decide +kernel
theorem dX6_stepsBetween_12 : decode cX6_stepsBetween 12 = .ok (.iaload, 1) := by decide +kernel
theorem dX6_stepsBetween_13 : decode cX6_stepsBetween 13 = .ok (.ireturn, 1) := by decide +kernel
theorem dX6_spreadFrom_0 : decode cX6_spreadFrom 0 = .ok (.iconst 0, 1) := by decide +kernel
theorem dX6_spreadFrom_1 : decode cX6_spreadFrom 1 = .ok (.istore_n 3, 1) := by decide +kernel
theorem dX6_spreadFrom_2 : decode cX6_spreadFrom 2 = .ok (.iload_n 3, 1) := by decide +kernel
theorem dX6_spreadFrom_3 : decode cX6_spreadFrom 3 = .ok (.bipush 9, 2) := by decide +kernel
theorem dX6_spreadFrom_5 : decode cX6_spreadFrom 5 = .ok (.if_icmp .ge 16, 3) := by decide +kernel
theorem dX6_spreadFrom_8 : decode cX6_spreadFrom 8 = .ok (.aload_n 0, 1) := by decide +kernel
theorem dX6_spreadFrom_9 : decode cX6_spreadFrom 9 = .ok (.getfield 19, 3) := by decide +kernel
theorem dX6_spreadFrom_12 : decode cX6_spreadFrom 12 = .ok (.iload_n 3, 1) := by decide +kernel
theorem dX6_spreadFrom_13 : decode cX6_spreadFrom 13 = .ok (.iconst (-1), 1) := by decide +kernel
theorem dX6_spreadFrom_14 : decode cX6_spreadFrom 14 = .ok (.iastore, 1) := by decide +kernel
theorem dX6_spreadFrom_15 : decode cX6_spreadFrom 15 = .ok (.iinc 3 1, 3) := by decide +kernel
theorem dX6_spreadFrom_18 : decode cX6_spreadFrom 18 = .ok (.goto (-16), 3) := by decide +kernel
theorem dX6_spreadFrom_21 : decode cX6_spreadFrom 21 = .ok (.aload_n 0, 1) := by decide +kernel
theorem dX6_spreadFrom_22 : decode cX6_spreadFrom 22 = .ok (.getfield 19, 3) := by decide +kernel
theorem dX6_spreadFrom_25 : decode cX6_spreadFrom 25 = .ok (.iload_n 2, 1) := by decide +kernel
theorem dX6_spreadFrom_26 : decode cX6_spreadFrom 26 = .ok (.iconst 0, 1) := by decide +kernel
theorem dX6_spreadFrom_27 : decode cX6_spreadFrom 27 = .ok (.iastore, 1) := by decide +kernel
theorem dX6_spreadFrom_28 : decode cX6_spreadFrom 28 = .ok (.iconst 1, 1) := by decide +kernel
theorem dX6_spreadFrom_29 : decode cX6_spreadFrom 29 = .ok (.istore_n 3, 1) := by decide +kernel
theorem dX6_spreadFrom_30 : decode cX6_spreadFrom 30 = .ok (.iconst 1, 1) := by decide +kernel
theorem dX6_spreadFrom_31 : decode cX6_spreadFrom 31 = .ok (.istore 4, 2) := by decide +kernel
theorem dX6_spreadFrom_33 : decode cX6_spreadFrom 33 = .ok (.iload 4, 2) := by decide +kernel
theorem dX6_spreadFrom_35 : decode cX6_spreadFrom 35 = .ok (.aload_n 1, 1) := by decide +kernel
theorem dX6_spreadFrom_36 : decode cX6_spreadFrom 36 = .ok (.getfield 26, 3) := by decide +kernel
theorem dX6_spreadFrom_39 : decode cX6_spreadFrom 39 = .ok (.if_icmp .ge 19, 3) := by decide +kernel
theorem dX6_spreadFrom_42 : decode cX6_spreadFrom 42 = .ok (.iload_n 3, 1) := by decide +kernel
theorem dX6_spreadFrom_43 : decode cX6_spreadFrom 43 = .ok (.aload_n 0, 1) := by decide +kernel
theorem dX6_spreadFrom_44 : decode cX6_spreadFrom 44 = .ok (.aload_n 1, 1) := by decide +kernel
theorem dX6_spreadFrom_45 : decode cX6_spreadFrom 45 = .ok (.iload 4, 2) := by decide +kernel
theorem dX6_spreadFrom_47 : decode cX6_spreadFrom 47 = .ok (.invokevirtual 48, 3) := by decide +kernel
theorem dX6_spreadFrom_50 : decode cX6_spreadFrom 50 = .ok (.iadd, 1) := by decide +kernel
theorem dX6_spreadFrom_51 : decode cX6_spreadFrom 51 = .ok (.istore_n 3, 1) := by decide +kernel
theorem dX6_spreadFrom_52 : decode cX6_spreadFrom 52 = .ok (.iinc 4 1, 3) := by decide +kernel
theorem dX6_spreadFrom_55 : decode cX6_spreadFrom 55 = .ok (.goto (-22), 3) := by decide +kernel
theorem dX6_spreadFrom_58 : decode cX6_spreadFrom 58 = .ok (.iload_n 3, 1) := by decide +kernel
theorem dX6_spreadFrom_59 : decode cX6_spreadFrom 59 = .ok (.ireturn, 1) := by decide +kernel
theorem dX6_startIn_0 : decode cX6_startIn 0 = .ok (.iconst 0, 1) := by decide +kernel
theorem dX6_startIn_1 : decode cX6_startIn 1 = .ok (.istore_n 3, 1) := by decide +kernel
theorem dX6_startIn_2 : decode cX6_startIn 2 = .ok (.iload_n 3, 1) := by decide +kernel
theorem dX6_startIn_3 : decode cX6_startIn 3 = .ok (.bipush 9, 2) := by decide +kernel
theorem dX6_startIn_5 : decode cX6_startIn 5 = .ok (.if_icmp .ge 24, 3) := by decide +kernel
theorem dX6_startIn_8 : decode cX6_startIn 8 = .ok (.aload_n 0, 1) := by decide +kernel
theorem dX6_startIn_9 : decode cX6_startIn 9 = .ok (.getfield 9, 3) := by decide +kernel
theorem dX6_startIn_12 : decode cX6_startIn 12 = .ok (.iload_n 3, 1) := by decide +kernel
theorem dX6_startIn_13 : decode cX6_startIn 13 = .ok (.ldc 43, 2) := by decide +kernel
theorem dX6_startIn_15 : decode cX6_startIn 15 = .ok (.iastore, 1) := by decide +kernel
theorem dX6_startIn_16 : decode cX6_startIn 16 = .ok (.aload_n 0, 1) := by decide +kernel
theorem dX6_startIn_17 : decode cX6_startIn 17 = .ok (.getfield 15, 3) := by decide +kernel
theorem dX6_startIn_20 : decode cX6_startIn 20 = .ok (.iload_n 3, 1) := by decide +kernel
theorem dX6_startIn_21 : decode cX6_startIn 21 = .ok (.iconst 0, 1) := by decide +kernel
theorem dX6_startIn_22 : decode cX6_startIn 22 = .ok (.bastore, 1) := by decide +kernel
theorem dX6_startIn_23 : decode cX6_startIn 23 = .ok (.iinc 3 1, 3) := by decide +kernel
theorem dX6_startIn_26 : decode cX6_startIn 26 = .ok (.goto (-24), 3) := by decide +kernel
theorem dX6_startIn_29 : decode cX6_startIn 29 = .ok (.aload_n 0, 1) := by decide +kernel
theorem dX6_startIn_30 : decode cX6_startIn 30 = .ok (.getfield 9, 3) := by decide +kernel
theorem dX6_startIn_33 : decode cX6_startIn 33 = .ok (.iload_n 1, 1) := by decide +kernel
theorem dX6_startIn_34 : decode cX6_startIn 34 = .ok (.iload_n 2, 1) := by decide +kernel
theorem dX6_startIn_35 : decode cX6_startIn 35 = .ok (.iastore, 1) := by decide +kernel
theorem dX6_startIn_36 : decode cX6_startIn 36 = .ok (.return_, 1) := by decide +kernel
theorem dX6_earliestUnsettled_0 : decode cX6_earliestUnsettled 0 = .ok (.iconst (-1), 1) := by decide +kernel
theorem dX6_earliestUnsettled_1 : decode cX6_earliestUnsettled 1 = .ok (.istore_n 2, 1) := by decide +kernel
theorem dX6_earliestUnsettled_2 : decode cX6_earliestUnsettled 2 = .ok (.ldc 43, 2) := by decide +kernel
theorem dX6_earliestUnsettled_4 : decode cX6_earliestUnsettled 4 = .ok (.istore_n 3, 1) := by decide +kernel
theorem dX6_earliestUnsettled_5 : decode cX6_earliestUnsettled 5 = .ok (.iconst 0, 1) := by decide +kernel
theorem dX6_earliestUnsettled_6 : decode cX6_earliestUnsettled 6 = .ok (.istore 4, 2) := by decide +kernel
theorem dX6_earliestUnsettled_8 : decode cX6_earliestUnsettled 8 = .ok (.iload 4, 2) := by decide +kernel
theorem dX6_earliestUnsettled_10 : decode cX6_earliestUnsettled 10 = .ok (.aload_n 1, 1) := by decide +kernel
theorem dX6_earliestUnsettled_11 : decode cX6_earliestUnsettled 11 = .ok (.getfield 26, 3) := by decide +kernel
theorem dX6_earliestUnsettled_14 : decode cX6_earliestUnsettled 14 = .ok (.if_icmp .ge 41, 3) := by decide +kernel
theorem dX6_earliestUnsettled_17 : decode cX6_earliestUnsettled 17 = .ok (.aload_n 0, 1) := by decide +kernel
theorem dX6_earliestUnsettled_18 : decode cX6_earliestUnsettled 18 = .ok (.getfield 15, 3) := by decide +kernel
theorem dX6_earliestUnsettled_21 : decode cX6_earliestUnsettled 21 = .ok (.iload 4, 2) := by decide +kernel
theorem dX6_earliestUnsettled_23 : decode cX6_earliestUnsettled 23 = .ok (.baload, 1) := by decide +kernel
theorem dX6_earliestUnsettled_24 : decode cX6_earliestUnsettled 24 = .ok (.ifCond .ne 25, 3) := by decide +kernel
theorem dX6_earliestUnsettled_27 : decode cX6_earliestUnsettled 27 = .ok (.aload_n 0, 1) := by decide +kernel
theorem dX6_earliestUnsettled_28 : decode cX6_earliestUnsettled 28 = .ok (.getfield 9, 3) := by decide +kernel
theorem dX6_earliestUnsettled_31 : decode cX6_earliestUnsettled 31 = .ok (.iload 4, 2) := by decide +kernel
theorem dX6_earliestUnsettled_33 : decode cX6_earliestUnsettled 33 = .ok (.iaload, 1) := by decide +kernel
theorem dX6_earliestUnsettled_34 : decode cX6_earliestUnsettled 34 = .ok (.iload_n 3, 1) := by decide +kernel
theorem dX6_earliestUnsettled_35 : decode cX6_earliestUnsettled 35 = .ok (.if_icmp .ge 14, 3) := by decide +kernel
theorem dX6_earliestUnsettled_38 : decode cX6_earliestUnsettled 38 = .ok (.iload 4, 2) := by decide +kernel
theorem dX6_earliestUnsettled_40 : decode cX6_earliestUnsettled 40 = .ok (.istore_n 2, 1) := by decide +kernel
theorem dX6_earliestUnsettled_41 : decode cX6_earliestUnsettled 41 = .ok (.aload_n 0, 1) := by decide +kernel
theorem dX6_earliestUnsettled_42 : decode cX6_earliestUnsettled 42 = .ok (.getfield 9, 3) := by decide +kernel
theorem dX6_earliestUnsettled_45 : decode cX6_earliestUnsettled 45 = .ok (.iload 4, 2) := by decide +kernel
theorem dX6_earliestUnsettled_47 : decode cX6_earliestUnsettled 47 = .ok (.iaload, 1) := by decide +kernel
theorem dX6_earliestUnsettled_48 : decode cX6_earliestUnsettled 48 = .ok (.istore_n 3, 1) := by decide +kernel
theorem dX6_earliestUnsettled_49 : decode cX6_earliestUnsettled 49 = .ok (.iinc 4 1, 3) := by decide +kernel
theorem dX6_earliestUnsettled_52 : decode cX6_earliestUnsettled 52 = .ok (.goto (-44), 3) := by decide +kernel
theorem dX6_earliestUnsettled_55 : decode cX6_earliestUnsettled 55 = .ok (.iload_n 2, 1) := by decide +kernel
theorem dX6_earliestUnsettled_56 : decode cX6_earliestUnsettled 56 = .ok (.ireturn, 1) := by decide +kernel
theorem dX6_leavePlace_0 : decode cX6_leavePlace 0 = .ok (.iconst 0, 1) := by decide +kernel
theorem dX6_leavePlace_1 : decode cX6_leavePlace 1 = .ok (.istore_n 3, 1) := by decide +kernel
theorem dX6_leavePlace_2 : decode cX6_leavePlace 2 = .ok (.iload_n 3, 1) := by decide +kernel
theorem dX6_leavePlace_3 : decode cX6_leavePlace 3 = .ok (.aload_n 1, 1) := by decide +kernel
theorem dX6_leavePlace_4 : decode cX6_leavePlace 4 = .ok (.getfield 51, 3) := by decide +kernel
theorem dX6_leavePlace_7 : decode cX6_leavePlace 7 = .ok (.if_icmp .ge 72, 3) := by decide +kernel
theorem dX6_leavePlace_10 : decode cX6_leavePlace 10 = .ok (.aload_n 1, 1) := by decide +kernel
theorem dX6_leavePlace_11 : decode cX6_leavePlace 11 = .ok (.getfield 54, 3) := by decide +kernel
theorem dX6_leavePlace_14 : decode cX6_leavePlace 14 = .ok (.iload_n 3, 1) := by decide +kernel
theorem dX6_leavePlace_15 : decode cX6_leavePlace 15 = .ok (.aaload, 1) := by decide +kernel
theorem dX6_leavePlace_16 : decode cX6_leavePlace 16 = .ok (.astore 4, 2) := by decide +kernel
theorem dX6_leavePlace_18 : decode cX6_leavePlace 18 = .ok (.aload 4, 2) := by decide +kernel
theorem dX6_leavePlace_20 : decode cX6_leavePlace 20 = .ok (.getfield 58, 3) := by decide +kernel
theorem dX6_leavePlace_23 : decode cX6_leavePlace 23 = .ok (.iload_n 2, 1) := by decide +kernel
theorem dX6_leavePlace_24 : decode cX6_leavePlace 24 = .ok (.if_icmp .ne 49, 3) := by decide +kernel
theorem dX6_leavePlace_27 : decode cX6_leavePlace 27 = .ok (.aload 4, 2) := by decide +kernel
theorem dX6_leavePlace_29 : decode cX6_leavePlace 29 = .ok (.getfield 63, 3) := by decide +kernel
theorem dX6_leavePlace_32 : decode cX6_leavePlace 32 = .ok (.ifCond .ne 41, 3) := by decide +kernel
theorem dX6_leavePlace_35 : decode cX6_leavePlace 35 = .ok (.aload 4, 2) := by decide +kernel
theorem dX6_leavePlace_37 : decode cX6_leavePlace 37 = .ok (.aload_n 0, 1) := by decide +kernel
theorem dX6_leavePlace_38 : decode cX6_leavePlace 38 = .ok (.getfield 9, 3) := by decide +kernel
theorem dX6_leavePlace_41 : decode cX6_leavePlace 41 = .ok (.iload_n 2, 1) := by decide +kernel
theorem dX6_leavePlace_42 : decode cX6_leavePlace 42 = .ok (.iaload, 1) := by decide +kernel
theorem dX6_leavePlace_43 : decode cX6_leavePlace 43 = .ok (.invokevirtual 67, 3) := by decide +kernel
theorem dX6_leavePlace_46 : decode cX6_leavePlace 46 = .ok (.istore 5, 2) := by decide +kernel
theorem dX6_leavePlace_48 : decode cX6_leavePlace 48 = .ok (.aload_n 0, 1) := by decide +kernel
theorem dX6_leavePlace_49 : decode cX6_leavePlace 49 = .ok (.getfield 9, 3) := by decide +kernel
theorem dX6_leavePlace_52 : decode cX6_leavePlace 52 = .ok (.aload 4, 2) := by decide +kernel
theorem dX6_leavePlace_54 : decode cX6_leavePlace 54 = .ok (.getfield 71, 3) := by decide +kernel
theorem dX6_leavePlace_57 : decode cX6_leavePlace 57 = .ok (.aload_n 0, 1) := by decide +kernel
theorem dX6_leavePlace_58 : decode cX6_leavePlace 58 = .ok (.getfield 9, 3) := by decide +kernel
theorem dX6_leavePlace_61 : decode cX6_leavePlace 61 = .ok (.aload 4, 2) := by decide +kernel
theorem dX6_leavePlace_63 : decode cX6_leavePlace 63 = .ok (.getfield 71, 3) := by decide +kernel
theorem dX6_leavePlace_66 : decode cX6_leavePlace 66 = .ok (.iaload, 1) := by decide +kernel
theorem dX6_leavePlace_67 : decode cX6_leavePlace 67 = .ok (.iload 5, 2) := by decide +kernel
theorem dX6_leavePlace_69 : decode cX6_leavePlace 69 = .ok (.invokestatic 74, 3) := by decide +kernel
theorem dX6_leavePlace_72 : decode cX6_leavePlace 72 = .ok (.iastore, 1) := by decide +kernel
theorem dX6_leavePlace_73 : decode cX6_leavePlace 73 = .ok (.iinc 3 1, 3) := by decide +kernel
theorem dX6_leavePlace_76 : decode cX6_leavePlace 76 = .ok (.goto (-74), 3) := by decide +kernel
theorem dX6_leavePlace_79 : decode cX6_leavePlace 79 = .ok (.return_, 1) := by decide +kernel
theorem dX6_leaveAllAt_0 : decode cX6_leaveAllAt 0 = .ok (.iconst 0, 1) := by decide +kernel
theorem dX6_leaveAllAt_1 : decode cX6_leaveAllAt 1 = .ok (.istore_n 3, 1) := by decide +kernel
theorem dX6_leaveAllAt_2 : decode cX6_leaveAllAt 2 = .ok (.iload_n 3, 1) := by decide +kernel
theorem dX6_leaveAllAt_3 : decode cX6_leaveAllAt 3 = .ok (.aload_n 1, 1) := by decide +kernel
theorem dX6_leaveAllAt_4 : decode cX6_leaveAllAt 4 = .ok (.getfield 51, 3) := by decide +kernel
theorem dX6_leaveAllAt_7 : decode cX6_leaveAllAt 7 = .ok (.if_icmp .ge 70, 3) := by decide +kernel
theorem dX6_leaveAllAt_10 : decode cX6_leaveAllAt 10 = .ok (.aload_n 1, 1) := by decide +kernel
theorem dX6_leaveAllAt_11 : decode cX6_leaveAllAt 11 = .ok (.getfield 54, 3) := by decide +kernel
theorem dX6_leaveAllAt_14 : decode cX6_leaveAllAt 14 = .ok (.iload_n 3, 1) := by decide +kernel
theorem dX6_leaveAllAt_15 : decode cX6_leaveAllAt 15 = .ok (.aaload, 1) := by decide +kernel
theorem dX6_leaveAllAt_16 : decode cX6_leaveAllAt 16 = .ok (.astore 4, 2) := by decide +kernel
theorem dX6_leaveAllAt_18 : decode cX6_leaveAllAt 18 = .ok (.aload_n 0, 1) := by decide +kernel
theorem dX6_leaveAllAt_19 : decode cX6_leaveAllAt 19 = .ok (.getfield 9, 3) := by decide +kernel
theorem dX6_leaveAllAt_22 : decode cX6_leaveAllAt 22 = .ok (.aload 4, 2) := by decide +kernel
theorem dX6_leaveAllAt_24 : decode cX6_leaveAllAt 24 = .ok (.getfield 58, 3) := by decide +kernel
theorem dX6_leaveAllAt_27 : decode cX6_leaveAllAt 27 = .ok (.iaload, 1) := by decide +kernel
theorem dX6_leaveAllAt_28 : decode cX6_leaveAllAt 28 = .ok (.iload_n 2, 1) := by decide +kernel
theorem dX6_leaveAllAt_29 : decode cX6_leaveAllAt 29 = .ok (.if_icmp .gt 42, 3) := by decide +kernel
theorem dX6_leaveAllAt_32 : decode cX6_leaveAllAt 32 = .ok (.aload 4, 2) := by decide +kernel
theorem dX6_leaveAllAt_34 : decode cX6_leaveAllAt 34 = .ok (.iload_n 2, 1) := by decide +kernel
theorem dX6_leaveAllAt_35 : decode cX6_leaveAllAt 35 = .ok (.invokevirtual 80, 3) := by decide +kernel
theorem dX6_leaveAllAt_38 : decode cX6_leaveAllAt 38 = .ok (.ifCond .eq 33, 3) := by decide +kernel
theorem dX6_leaveAllAt_41 : decode cX6_leaveAllAt 41 = .ok (.aload_n 0, 1) := by decide +kernel
theorem dX6_leaveAllAt_42 : decode cX6_leaveAllAt 42 = .ok (.getfield 9, 3) := by decide +kernel
theorem dX6_leaveAllAt_45 : decode cX6_leaveAllAt 45 = .ok (.aload 4, 2) := by decide +kernel
theorem dX6_leaveAllAt_47 : decode cX6_leaveAllAt 47 = .ok (.getfield 71, 3) := by decide +kernel
theorem dX6_leaveAllAt_50 : decode cX6_leaveAllAt 50 = .ok (.aload_n 0, 1) := by decide +kernel
theorem dX6_leaveAllAt_51 : decode cX6_leaveAllAt 51 = .ok (.getfield 9, 3) := by decide +kernel
theorem dX6_leaveAllAt_54 : decode cX6_leaveAllAt 54 = .ok (.aload 4, 2) := by decide +kernel
theorem dX6_leaveAllAt_56 : decode cX6_leaveAllAt 56 = .ok (.getfield 71, 3) := by decide +kernel
theorem dX6_leaveAllAt_59 : decode cX6_leaveAllAt 59 = .ok (.iaload, 1) := by decide +kernel
theorem dX6_leaveAllAt_60 : decode cX6_leaveAllAt 60 = .ok (.iload_n 2, 1) := by decide +kernel
theorem dX6_leaveAllAt_61 : decode cX6_leaveAllAt 61 = .ok (.aload 4, 2) := by decide +kernel
theorem dX6_leaveAllAt_63 : decode cX6_leaveAllAt 63 = .ok (.getfield 84, 3) := by decide +kernel
theorem dX6_leaveAllAt_66 : decode cX6_leaveAllAt 66 = .ok (.iadd, 1) := by decide +kernel
theorem dX6_leaveAllAt_67 : decode cX6_leaveAllAt 67 = .ok (.invokestatic 74, 3) := by decide +kernel
theorem dX6_leaveAllAt_70 : decode cX6_leaveAllAt 70 = .ok (.iastore, 1) := by decide +kernel
theorem dX6_leaveAllAt_71 : decode cX6_leaveAllAt 71 = .ok (.iinc 3 1, 3) := by decide +kernel
theorem dX6_leaveAllAt_74 : decode cX6_leaveAllAt 74 = .ok (.goto (-72), 3) := by decide +kernel
theorem dX6_leaveAllAt_77 : decode cX6_leaveAllAt 77 = .ok (.return_, 1) := by decide +kernel
theorem dX6_placesFirstReachedIn_0 : decode cX6_placesFirstReachedIn 0 = .ok (.iconst 0, 1) := by decide +kernel
theorem dX6_placesFirstReachedIn_1 : decode cX6_placesFirstReachedIn 1 = .ok (.istore_n 3, 1) := by decide +kernel
theorem dX6_placesFirstReachedIn_2 : decode cX6_placesFirstReachedIn 2 = .ok (.iconst 0, 1) := by decide +kernel
theorem dX6_placesFirstReachedIn_3 : decode cX6_placesFirstReachedIn 3 = .ok (.istore 4, 2) := by decide +kernel
theorem dX6_placesFirstReachedIn_5 : decode cX6_placesFirstReachedIn 5 = .ok (.iload 4, 2) := by decide +kernel
theorem dX6_placesFirstReachedIn_7 : decode cX6_placesFirstReachedIn 7 = .ok (.aload_n 1, 1) := by decide +kernel
theorem dX6_placesFirstReachedIn_8 : decode cX6_placesFirstReachedIn 8 = .ok (.getfield 51, 3) := by decide +kernel
theorem dX6_placesFirstReachedIn_11 : decode cX6_placesFirstReachedIn 11 = .ok (.if_icmp .ge 70, 3) := by decide +kernel
theorem dX6_placesFirstReachedIn_14 : decode cX6_placesFirstReachedIn 14 = .ok (.aload_n 1, 1) := by decide +kernel
theorem dX6_placesFirstReachedIn_15 : decode cX6_placesFirstReachedIn 15 = .ok (.getfield 54, 3) := by decide +kernel
theorem dX6_placesFirstReachedIn_18 : decode cX6_placesFirstReachedIn 18 = .ok (.iload 4, 2) := by decide +kernel
theorem dX6_placesFirstReachedIn_20 : decode cX6_placesFirstReachedIn 20 = .ok (.aaload, 1) := by decide +kernel
theorem dX6_placesFirstReachedIn_21 : decode cX6_placesFirstReachedIn 21 = .ok (.astore 5, 2) := by decide +kernel
theorem dX6_placesFirstReachedIn_23 : decode cX6_placesFirstReachedIn 23 = .ok (.aload 5, 2) := by decide +kernel
theorem dX6_placesFirstReachedIn_25 : decode cX6_placesFirstReachedIn 25 = .ok (.getfield 63, 3) := by decide +kernel
theorem dX6_placesFirstReachedIn_28 : decode cX6_placesFirstReachedIn 28 = .ok (.ifCond .ne 47, 3) := by decide +kernel
theorem dX6_placesFirstReachedIn_31 : decode cX6_placesFirstReachedIn 31 = .ok (.aload_n 0, 1) := by decide +kernel
theorem dX6_placesFirstReachedIn_32 : decode cX6_placesFirstReachedIn 32 = .ok (.getfield 19, 3) := by decide +kernel
theorem dX6_placesFirstReachedIn_35 : decode cX6_placesFirstReachedIn 35 = .ok (.aload 5, 2) := by decide +kernel
theorem dX6_placesFirstReachedIn_37 : decode cX6_placesFirstReachedIn 37 = .ok (.getfield 58, 3) := by decide +kernel
theorem dX6_placesFirstReachedIn_40 : decode cX6_placesFirstReachedIn 40 = .ok (.iaload, 1) := by decide +kernel
theorem dX6_placesFirstReachedIn_41 : decode cX6_placesFirstReachedIn 41 = .ok (.iload_n 2, 1) := by decide +kernel
theorem dX6_placesFirstReachedIn_42 : decode cX6_placesFirstReachedIn 42 = .ok (.iconst 1, 1) := by decide +kernel
theorem dX6_placesFirstReachedIn_43 : decode cX6_placesFirstReachedIn 43 = .ok (.isub, 1) := by decide +kernel
theorem dX6_placesFirstReachedIn_44 : decode cX6_placesFirstReachedIn 44 = .ok (.if_icmp .ne 31, 3) := by decide +kernel
theorem dX6_placesFirstReachedIn_47 : decode cX6_placesFirstReachedIn 47 = .ok (.aload_n 0, 1) := by decide +kernel
theorem dX6_placesFirstReachedIn_48 : decode cX6_placesFirstReachedIn 48 = .ok (.getfield 19, 3) := by decide +kernel
theorem dX6_placesFirstReachedIn_51 : decode cX6_placesFirstReachedIn 51 = .ok (.aload 5, 2) := by decide +kernel
theorem dX6_placesFirstReachedIn_53 : decode cX6_placesFirstReachedIn 53 = .ok (.getfield 71, 3) := by decide +kernel
theorem dX6_placesFirstReachedIn_56 : decode cX6_placesFirstReachedIn 56 = .ok (.iaload, 1) := by decide +kernel
theorem dX6_placesFirstReachedIn_57 : decode cX6_placesFirstReachedIn 57 = .ok (.iconst (-1), 1) := by decide +kernel
theorem dX6_placesFirstReachedIn_58 : decode cX6_placesFirstReachedIn 58 = .ok (.if_icmp .ne 17, 3) := by decide +kernel
theorem dX6_placesFirstReachedIn_61 : decode cX6_placesFirstReachedIn 61 = .ok (.aload_n 0, 1) := by decide +kernel
theorem dX6_placesFirstReachedIn_62 : decode cX6_placesFirstReachedIn 62 = .ok (.getfield 19, 3) := by decide +kernel
theorem dX6_placesFirstReachedIn_65 : decode cX6_placesFirstReachedIn 65 = .ok (.aload 5, 2) := by decide +kernel
theorem dX6_placesFirstReachedIn_67 : decode cX6_placesFirstReachedIn 67 = .ok (.getfield 71, 3) := by decide +kernel
theorem dX6_placesFirstReachedIn_70 : decode cX6_placesFirstReachedIn 70 = .ok (.iload_n 2, 1) := by decide +kernel
theorem dX6_placesFirstReachedIn_71 : decode cX6_placesFirstReachedIn 71 = .ok (.iastore, 1) := by decide +kernel
theorem dX6_placesFirstReachedIn_72 : decode cX6_placesFirstReachedIn 72 = .ok (.iinc 3 1, 3) := by decide +kernel
theorem dX6_placesFirstReachedIn_75 : decode cX6_placesFirstReachedIn 75 = .ok (.iinc 4 1, 3) := by decide +kernel
theorem dX6_placesFirstReachedIn_78 : decode cX6_placesFirstReachedIn 78 = .ok (.goto (-73), 3) := by decide +kernel
theorem dX6_placesFirstReachedIn_81 : decode cX6_placesFirstReachedIn 81 = .ok (.iload_n 3, 1) := by decide +kernel
theorem dX6_placesFirstReachedIn_82 : decode cX6_placesFirstReachedIn 82 = .ok (.ireturn, 1) := by decide +kernel
theorem dX7_init_0 : decode cX7_init 0 = .ok (.aload_n 0, 1) := by decide +kernel
theorem dX7_init_1 : decode cX7_init 1 = .ok (.invokespecial 1, 3) := by decide +kernel
theorem dX7_init_4 : decode cX7_init 4 = .ok (.aload_n 0, 1) := by decide +kernel
theorem dX7_init_5 : decode cX7_init 5 = .ok (.new 7, 3) := by decide +kernel
theorem dX7_init_8 : decode cX7_init 8 = .ok (.dup, 1) := by decide +kernel
theorem dX7_init_9 : decode cX7_init 9 = .ok (.invokespecial 9, 3) := by decide +kernel
theorem dX7_init_12 : decode cX7_init 12 = .ok (.putfield 10, 3) := by decide +kernel
theorem dX7_init_15 : decode cX7_init 15 = .ok (.aload_n 0, 1) := by decide +kernel
theorem dX7_init_16 : decode cX7_init 16 = .ok (.new 16, 3) := by decide +kernel
theorem dX7_init_19 : decode cX7_init 19 = .ok (.dup, 1) := by decide +kernel
theorem dX7_init_20 : decode cX7_init 20 = .ok (.aload_n 0, 1) := by decide +kernel
theorem dX7_init_21 : decode cX7_init 21 = .ok (.getfield 10, 3) := by decide +kernel
theorem dX7_init_24 : decode cX7_init 24 = .ok (.invokespecial 18, 3) := by decide +kernel
theorem dX7_init_27 : decode cX7_init 27 = .ok (.putfield 21, 3) := by decide +kernel
theorem dX7_init_30 : decode cX7_init 30 = .ok (.aload_n 0, 1) := by decide +kernel
theorem dX7_init_31 : decode cX7_init 31 = .ok (.new 16, 3) := by decide +kernel
theorem dX7_init_34 : decode cX7_init 34 = .ok (.dup, 1) := by decide +kernel
theorem dX7_init_35 : decode cX7_init 35 = .ok (.aload_n 0, 1) := by decide +kernel
theorem dX7_init_36 : decode cX7_init 36 = .ok (.getfield 10, 3) := by decide +kernel
theorem dX7_init_39 : decode cX7_init 39 = .ok (.invokespecial 18, 3) := by decide +kernel
theorem dX7_init_42 : decode cX7_init 42 = .ok (.putfield 25, 3) := by decide +kernel
theorem dX7_init_45 : decode cX7_init 45 = .ok (.aload_n 0, 1) := by decide +kernel
theorem dX7_init_46 : decode cX7_init 46 = .ok (.new 16, 3) := by decide +kernel
theorem dX7_init_49 : decode cX7_init 49 = .ok (.dup, 1) := by decide +kernel
theorem dX7_init_50 : decode cX7_init 50 = .ok (.aload_n 0, 1) := by decide +kernel
theorem dX7_init_51 : decode cX7_init 51 = .ok (.getfield 10, 3) := by decide +kernel
theorem dX7_init_54 : decode cX7_init 54 = .ok (.invokespecial 18, 3) := by decide +kernel
theorem dX7_init_57 : decode cX7_init 57 = .ok (.putfield 28, 3) := by decide +kernel
theorem dX7_init_60 : decode cX7_init 60 = .ok (.aload_n 0, 1) := by decide +kernel
theorem dX7_init_61 : decode cX7_init 61 = .ok (.iconst 0, 1) := by decide +kernel
theorem dX7_init_62 : decode cX7_init 62 = .ok (.putfield 31, 3) := by decide +kernel
theorem dX7_init_65 : decode cX7_init 65 = .ok (.aload_n 0, 1) := by decide +kernel
theorem dX7_init_66 : decode cX7_init 66 = .ok (.new 35, 3) := by decide +kernel
theorem dX7_init_69 : decode cX7_init 69 = .ok (.dup, 1) := by decide +kernel
theorem dX7_init_70 : decode cX7_init 70 = .ok (.aload_n 0, 1) := by decide +kernel
theorem dX7_init_71 : decode cX7_init 71 = .ok (.getfield 10, 3) := by decide +kernel
theorem dX7_init_74 : decode cX7_init 74 = .ok (.invokespecial 37, 3) := by decide +kernel
theorem dX7_init_77 : decode cX7_init 77 = .ok (.putfield 38, 3) := by decide +kernel
theorem dX7_init_80 : decode cX7_init 80 = .ok (.aload_n 0, 1) := by decide +kernel
theorem dX7_init_81 : decode cX7_init 81 = .ok (.new 42, 3) := by decide +kernel
theorem dX7_init_84 : decode cX7_init 84 = .ok (.dup, 1) := by decide +kernel
theorem dX7_init_85 : decode cX7_init 85 = .ok (.invokespecial 44, 3) := by decide +kernel
theorem dX7_init_88 : decode cX7_init 88 = .ok (.putfield 45, 3) := by decide +kernel
theorem dX7_init_91 : decode cX7_init 91 = .ok (.aload_n 0, 1) := by decide +kernel
theorem dX7_init_92 : decode cX7_init 92 = .ok (.bipush 12, 2) := by decide +kernel
theorem dX7_init_94 : decode cX7_init 94 = .ok (.newarray .int, 2) := by decide +kernel
theorem dX7_init_96 : decode cX7_init 96 = .ok (.putfield 49, 3) := by decide +kernel
theorem dX7_init_99 : decode cX7_init 99 = .ok (.aload_n 0, 1) := by decide +kernel
theorem dX7_init_100 : decode cX7_init 100 = .ok (.new 53, 3) := by decide +kernel
theorem dX7_init_103 : decode cX7_init 103 = .ok (.dup, 1) := by decide +kernel
theorem dX7_init_104 : decode cX7_init 104 = .ok (.invokespecial 55, 3) := by decide +kernel
theorem dX7_init_107 : decode cX7_init 107 = .ok (.putfield 56, 3) := by decide +kernel
theorem dX7_init_110 : decode cX7_init 110 = .ok (.aload_n 0, 1) := by decide +kernel
theorem dX7_init_111 : decode cX7_init 111 = .ok (.iconst (-1), 1) := by decide +kernel
theorem dX7_init_112 : decode cX7_init 112 = .ok (.putfield 60, 3) := by decide +kernel
theorem dX7_init_115 : decode cX7_init 115 = .ok (.aload_n 0, 1) := by decide +kernel
theorem dX7_init_116 : decode cX7_init 116 = .ok (.iconst (-1), 1) := by decide +kernel
theorem dX7_init_117 : decode cX7_init 117 = .ok (.putfield 64, 3) := by decide +kernel
theorem dX7_init_120 : decode cX7_init 120 = .ok (.return_, 1) := by decide +kernel
theorem dX7_addPlace_0 : decode cX7_addPlace 0 = .ok (.aload_n 0, 1) := by decide +kernel
theorem dX7_addPlace_1 : decode cX7_addPlace 1 = .ok (.iconst 0, 1) := by decide +kernel
theorem dX7_addPlace_2 : decode cX7_addPlace 2 = .ok (.iconst 0, 1) := by decide +kernel
theorem dX7_addPlace_3 : decode cX7_addPlace 3 = .ok (.iconst 0, 1) := by decide +kernel
theorem dX7_addPlace_4 : decode cX7_addPlace 4 = .ok (.iconst 0, 1) := by decide +kernel
theorem dX7_addPlace_5 : decode cX7_addPlace 5 = .ok (.iconst 0, 1) := by decide +kernel
theorem dX7_addPlace_6 : decode cX7_addPlace 6 = .ok (.invokevirtual 67, 3) := by decide +kernel
theorem dX7_addPlace_9 : decode cX7_addPlace 9 = .ok (.ireturn, 1) := by decide +kernel
theorem dX7_addLink_0 : decode cX7_addLink 0 = .ok (.aload_n 0, 1) := by decide +kernel
theorem dX7_addLink_1 : decode cX7_addLink 1 = .ok (.iconst 1, 1) := by decide +kernel
theorem dX7_addLink_2 : decode cX7_addLink 2 = .ok (.iload_n 1, 1) := by decide +kernel
theorem dX7_addLink_3 : decode cX7_addLink 3 = .ok (.iload_n 2, 1) := by decide +kernel
theorem dX7_addLink_4 : decode cX7_addLink 4 = .ok (.iload_n 3, 1) := by decide +kernel
theorem dX7_addLink_5 : decode cX7_addLink 5 = .ok (.iload 4, 2) := by decide +kernel
theorem dX7_addLink_7 : decode cX7_addLink 7 = .ok (.invokevirtual 67, 3) := by decide +kernel
theorem dX7_addLink_10 : decode cX7_addLink 10 = .ok (.ireturn, 1) := by decide +kernel
theorem dX7_block_0 : decode cX7_block 0 = .ok (.aload_n 0, 1) := by decide +kernel
theorem dX7_block_1 : decode cX7_block 1 = .ok (.iconst 2, 1) := by decide +kernel
theorem dX7_block_2 : decode cX7_block 2 = .ok (.iload_n 1, 1) := by decide +kernel
theorem dX7_block_3 : decode cX7_block 3 = .ok (.iconst 0, 1) := by decide +kernel
theorem dX7_block_4 : decode cX7_block 4 = .ok (.iconst 0, 1) := by decide +kernel
theorem dX7_block_5 : decode cX7_block 5 = .ok (.iconst 0, 1) := by decide +kernel
theorem dX7_block_6 : decode cX7_block 6 = .ok (.invokevirtual 67, 3) := by decide +kernel
theorem dX7_block_9 : decode cX7_block 9 = .ok (.ireturn, 1) := by decide +kernel
theorem dX7_open_0 : decode cX7_open 0 = .ok (.aload_n 0, 1) := by decide +kernel
theorem dX7_open_1 : decode cX7_open 1 = .ok (.iconst 3, 1) := by decide +kernel
theorem dX7_open_2 : decode cX7_open 2 = .ok (.iload_n 1, 1) := by decide +kernel
theorem dX7_open_3 : decode cX7_open 3 = .ok (.iconst 0, 1) := by decide +kernel
theorem dX7_open_4 : decode cX7_open 4 = .ok (.iconst 0, 1) := by decide +kernel
theorem dX7_open_5 : decode cX7_open 5 = .ok (.iconst 0, 1) := by decide +kernel
theorem dX7_open_6 : decode cX7_open 6 = .ok (.invokevirtual 67, 3) := by decide +kernel
theorem dX7_open_9 : decode cX7_open 9 = .ok (.ireturn, 1) := by decide +kernel
theorem dX7_post_0 : decode cX7_post 0 = .ok (.aload_n 0, 1) := by decide +kernel
theorem dX7_post_1 : decode cX7_post 1 = .ok (.iconst 4, 1) := by decide +kernel
theorem dX7_post_2 : decode cX7_post 2 = .ok (.iload_n 1, 1) := by decide +kernel
theorem dX7_post_3 : decode cX7_post 3 = .ok (.iload_n 2, 1) := by decide +kernel
theorem dX7_post_4 : decode cX7_post 4 = .ok (.iload_n 3, 1) := by decide +kernel
theorem dX7_post_5 : decode cX7_post 5 = .ok (.iload 4, 2) := by decide +kernel
theorem dX7_post_7 : decode cX7_post 7 = .ok (.invokevirtual 67, 3) := by decide +kernel
theorem dX7_post_10 : decode cX7_post 10 = .ok (.ireturn, 1) := by decide +kernel
theorem dX7_send_0 : decode cX7_send 0 = .ok (.aload_n 0, 1) := by decide +kernel
theorem dX7_send_1 : decode cX7_send 1 = .ok (.iconst 5, 1) := by decide +kernel
theorem dX7_send_2 : decode cX7_send 2 = .ok (.iload_n 1, 1) := by decide +kernel
theorem dX7_send_3 : decode cX7_send 3 = .ok (.iload_n 2, 1) := by decide +kernel
theorem dX7_send_4 : decode cX7_send 4 = .ok (.iconst 0, 1) := by decide +kernel
theorem dX7_send_5 : decode cX7_send 5 = .ok (.iconst 0, 1) := by decide +kernel
theorem dX7_send_6 : decode cX7_send 6 = .ok (.invokevirtual 67, 3) := by decide +kernel
theorem dX7_send_9 : decode cX7_send 9 = .ok (.ireturn, 1) := by decide +kernel
theorem dX7_addStamps_0 : decode cX7_addStamps 0 = .ok (.aload_n 0, 1) := by decide +kernel
theorem dX7_addStamps_1 : decode cX7_addStamps 1 = .ok (.bipush 6, 2) := by decide +kernel
theorem dX7_addStamps_3 : decode cX7_addStamps 3 = .ok (.iload_n 1, 1) := by decide +kernel
theorem dX7_addStamps_4 : decode cX7_addStamps 4 = .ok (.iload_n 2, 1) := by decide +kernel
theorem dX7_addStamps_5 : decode cX7_addStamps 5 = .ok (.iconst 0, 1) := by decide +kernel
theorem dX7_addStamps_6 : decode cX7_addStamps 6 = .ok (.iconst 0, 1) := by decide +kernel
theorem dX7_addStamps_7 : decode cX7_addStamps 7 = .ok (.invokevirtual 67, 3) := by decide +kernel
theorem dX7_addStamps_10 : decode cX7_addStamps 10 = .ok (.ireturn, 1) := by decide +kernel
theorem dX7_takeBack_0 : decode cX7_takeBack 0 = .ok (.aload_n 0, 1) := by decide +kernel
theorem dX7_takeBack_1 : decode cX7_takeBack 1 = .ok (.bipush 7, 2) := by decide +kernel
theorem dX7_takeBack_3 : decode cX7_takeBack 3 = .ok (.iload_n 1, 1) := by decide +kernel
theorem dX7_takeBack_4 : decode cX7_takeBack 4 = .ok (.iconst 0, 1) := by decide +kernel
theorem dX7_takeBack_5 : decode cX7_takeBack 5 = .ok (.iconst 0, 1) := by decide +kernel
theorem dX7_takeBack_6 : decode cX7_takeBack 6 = .ok (.iconst 0, 1) := by decide +kernel
theorem dX7_takeBack_7 : decode cX7_takeBack 7 = .ok (.invokevirtual 67, 3) := by decide +kernel
theorem dX7_takeBack_10 : decode cX7_takeBack 10 = .ok (.ireturn, 1) := by decide +kernel
theorem dX7_dispatch_0 : decode cX7_dispatch 0 = .ok (.aload_n 0, 1) := by decide +kernel
theorem dX7_dispatch_1 : decode cX7_dispatch 1 = .ok (.bipush 8, 2) := by decide +kernel
theorem dX7_dispatch_3 : decode cX7_dispatch 3 = .ok (.iconst 0, 1) := by decide +kernel
theorem dX7_dispatch_4 : decode cX7_dispatch 4 = .ok (.iconst 0, 1) := by decide +kernel
theorem dX7_dispatch_5 : decode cX7_dispatch 5 = .ok (.iconst 0, 1) := by decide +kernel
theorem dX7_dispatch_6 : decode cX7_dispatch 6 = .ok (.iconst 0, 1) := by decide +kernel
theorem dX7_dispatch_7 : decode cX7_dispatch 7 = .ok (.invokevirtual 67, 3) := by decide +kernel
theorem dX7_dispatch_10 : decode cX7_dispatch 10 = .ok (.ireturn, 1) := by decide +kernel
theorem dX7_pass_0 : decode cX7_pass 0 = .ok (.aload_n 0, 1) := by decide +kernel
theorem dX7_pass_1 : decode cX7_pass 1 = .ok (.bipush 9, 2) := by decide +kernel
theorem dX7_pass_3 : decode cX7_pass 3 = .ok (.iload_n 1, 1) := by decide +kernel
theorem dX7_pass_4 : decode cX7_pass 4 = .ok (.iconst 0, 1) := by decide +kernel
theorem dX7_pass_5 : decode cX7_pass 5 = .ok (.iconst 0, 1) := by decide +kernel
theorem dX7_pass_6 : decode cX7_pass 6 = .ok (.iconst 0, 1) := by decide +kernel
theorem dX7_pass_7 : decode cX7_pass 7 = .ok (.invokevirtual 67, 3) := by decide +kernel
theorem dX7_pass_10 : decode cX7_pass 10 = .ok (.ireturn, 1) := by decide +kernel
theorem dX7_hour_0 : decode cX7_hour 0 = .ok (.aload_n 0, 1) := by decide +kernel
theorem dX7_hour_1 : decode cX7_hour 1 = .ok (.getfield 21, 3) := by decide +kernel
theorem dX7_hour_4 : decode cX7_hour 4 = .ok (.getfield 71, 3) := by decide +kernel
theorem dX7_hour_7 : decode cX7_hour 7 = .ok (.ireturn, 1) := by decide +kernel
theorem dX7_placeCount_0 : decode cX7_placeCount 0 = .ok (.aload_n 0, 1) := by decide +kernel
theorem dX7_placeCount_1 : decode cX7_placeCount 1 = .ok (.getfield 21, 3) := by decide +kernel
theorem dX7_placeCount_4 : decode cX7_placeCount 4 = .ok (.getfield 74, 3) := by decide +kernel
theorem dX7_placeCount_7 : decode cX7_placeCount 7 = .ok (.getfield 78, 3) := by decide +kernel
theorem dX7_placeCount_10 : decode cX7_placeCount 10 = .ok (.ireturn, 1) := by decide +kernel
theorem dX7_linkCount_0 : decode cX7_linkCount 0 = .ok (.aload_n 0, 1) := by decide +kernel
theorem dX7_linkCount_1 : decode cX7_linkCount 1 = .ok (.getfield 21, 3) := by decide +kernel
theorem dX7_linkCount_4 : decode cX7_linkCount 4 = .ok (.getfield 74, 3) := by decide +kernel
theorem dX7_linkCount_7 : decode cX7_linkCount 7 = .ok (.getfield 83, 3) := by decide +kernel
theorem dX7_linkCount_10 : decode cX7_linkCount 10 = .ok (.ireturn, 1) := by decide +kernel
theorem dX7_linkFrom_0 : decode cX7_linkFrom 0 = .ok (.aload_n 0, 1) := by decide +kernel
theorem dX7_linkFrom_1 : decode cX7_linkFrom 1 = .ok (.iload_n 1, 1) := by decide +kernel
theorem dX7_linkFrom_2 : decode cX7_linkFrom 2 = .ok (.invokevirtual 86, 3) := by decide +kernel
theorem dX7_linkFrom_5 : decode cX7_linkFrom 5 = .ok (.getfield 90, 3) := by decide +kernel
theorem dX7_linkFrom_8 : decode cX7_linkFrom 8 = .ok (.ireturn, 1) := by decide +kernel
theorem dX7_linkTo_0 : decode cX7_linkTo 0 = .ok (.aload_n 0, 1) := by decide +kernel
theorem dX7_linkTo_1 : decode cX7_linkTo 1 = .ok (.iload_n 1, 1) := by decide +kernel
theorem dX7_linkTo_2 : decode cX7_linkTo 2 = .ok (.invokevirtual 86, 3) := by decide +kernel
theorem dX7_linkTo_5 : decode cX7_linkTo 5 = .ok (.getfield 95, 3) := by decide +kernel
theorem dX7_linkTo_8 : decode cX7_linkTo 8 = .ok (.ireturn, 1) := by decide +kernel
theorem dX7_travelTime_0 : decode cX7_travelTime 0 = .ok (.aload_n 0, 1) := by decide +kernel
theorem dX7_travelTime_1 : decode cX7_travelTime 1 = .ok (.iload_n 1, 1) := by decide +kernel
theorem dX7_travelTime_2 : decode cX7_travelTime 2 = .ok (.invokevirtual 86, 3) := by decide +kernel
theorem dX7_travelTime_5 : decode cX7_travelTime 5 = .ok (.getfield 98, 3) := by decide +kernel
theorem dX7_travelTime_8 : decode cX7_travelTime 8 = .ok (.ireturn, 1) := by decide +kernel
theorem dX7_isBlocked_0 : decode cX7_isBlocked 0 = .ok (.aload_n 0, 1) := by decide +kernel
theorem dX7_isBlocked_1 : decode cX7_isBlocked 1 = .ok (.iload_n 1, 1) := by decide +kernel
theorem dX7_isBlocked_2 : decode cX7_isBlocked 2 = .ok (.invokevirtual 86, 3) := by decide +kernel
theorem dX7_isBlocked_5 : decode cX7_isBlocked 5 = .ok (.getfield 101, 3) := by decide +kernel
theorem dX7_isBlocked_8 : decode cX7_isBlocked 8 = .ok (.ireturn, 1) := by decide +kernel
theorem dX7_isOpenAt_0 : decode cX7_isOpenAt 0 = .ok (.aload_n 0, 1) := by decide +kernel
theorem dX7_isOpenAt_1 : decode cX7_isOpenAt 1 = .ok (.iload_n 1, 1) := by decide +kernel
theorem dX7_isOpenAt_2 : decode cX7_isOpenAt 2 = .ok (.invokevirtual 86, 3) := by decide +kernel
theorem dX7_isOpenAt_5 : decode cX7_isOpenAt 5 = .ok (.astore_n 3, 1) := by decide +kernel
theorem dX7_isOpenAt_6 : decode cX7_isOpenAt 6 = .ok (.iload_n 2, 1) := by decide +kernel
theorem dX7_isOpenAt_7 : decode cX7_isOpenAt 7 = .ok (.invokestatic 104, 3) := by decide +kernel
theorem dX7_isOpenAt_10 : decode cX7_isOpenAt 10 = .ok (.aload_n 3, 1) := by decide +kernel
theorem dX7_isOpenAt_11 : decode cX7_isOpenAt 11 = .ok (.iload_n 2, 1) := by decide +kernel
theorem dX7_isOpenAt_12 : decode cX7_isOpenAt 12 = .ok (.invokevirtual 108, 3) := by decide +kernel
theorem dX7_isOpenAt_15 : decode cX7_isOpenAt 15 = .ok (.ireturn, 1) := by decide +kernel
theorem dX7_loadOf_0 : decode cX7_loadOf 0 = .ok (.iload_n 1, 1) := by decide +kernel
theorem dX7_loadOf_1 : decode cX7_loadOf 1 = .ok (.aload_n 0, 1) := by decide +kernel
theorem dX7_loadOf_2 : decode cX7_loadOf 2 = .ok (.getfield 21, 3) := by decide +kernel
theorem dX7_loadOf_5 : decode cX7_loadOf 5 = .ok (.getfield 74, 3) := by decide +kernel
theorem dX7_loadOf_8 : decode cX7_loadOf 8 = .ok (.getfield 83, 3) := by decide +kernel
theorem dX7_loadOf_11 : decode cX7_loadOf 11 = .ok (.invokestatic 112, 3) := by decide +kernel
theorem dX7_loadOf_14 : decode cX7_loadOf 14 = .ok (.aload_n 0, 1) := by decide +kernel
theorem dX7_loadOf_15 : decode cX7_loadOf 15 = .ok (.getfield 21, 3) := by decide +kernel
theorem dX7_loadOf_18 : decode cX7_loadOf 18 = .ok (.iload_n 1, 1) := by decide +kernel
theorem dX7_loadOf_19 : decode cX7_loadOf 19 = .ok (.invokevirtual 116, 3) := by decide +kernel
theorem dX7_loadOf_22 : decode cX7_loadOf 22 = .ok (.ireturn, 1) := by decide +kernel
theorem dX7_busiestLink_0 : decode cX7_busiestLink 0 = .ok (.aload_n 0, 1) := by decide +kernel
theorem dX7_busiestLink_1 : decode cX7_busiestLink 1 = .ok (.getfield 21, 3) := by decide +kernel
theorem dX7_busiestLink_4 : decode cX7_busiestLink 4 = .ok (.getfield 74, 3) := by decide +kernel
theorem dX7_busiestLink_7 : decode cX7_busiestLink 7 = .ok (.getfield 83, 3) := by decide +kernel
theorem dX7_busiestLink_10 : decode cX7_busiestLink 10 = .ok (.ifCond .ne 13, 3) := by decide +kernel
theorem dX7_busiestLink_13 : decode cX7_busiestLink 13 = .ok (.new 120, 3) := by decide +kernel
theorem dX7_busiestLink_16 : decode cX7_busiestLink 16 = .ok (.dup, 1) := by decide +kernel
theorem dX7_busiestLink_17 : decode cX7_busiestLink 17 = .ok (.ldc 122, 2) := by decide +kernel
theorem dX7_busiestLink_19 : decode cX7_busiestLink 19 = .ok (.invokespecial 124, 3) := by decide +kernel
theorem dX7_busiestLink_22 : decode cX7_busiestLink 22 = .ok (.athrow, 1) := by decide +kernel
theorem dX7_busiestLink_23 : decode cX7_busiestLink 23 = .ok (.aload_n 0, 1) := by decide +kernel
theorem dX7_busiestLink_24 : decode cX7_busiestLink 24 = .ok (.getfield 21, 3) := by decide +kernel
theorem dX7_busiestLink_27 : decode cX7_busiestLink 27 = .ok (.invokevirtual 127, 3) := by decide +kernel
theorem dX7_busiestLink_30 : decode cX7_busiestLink 30 = .ok (.ireturn, 1) := by decide +kernel
theorem dX7_degree_0 : decode cX7_degree 0 = .ok (.iload_n 1, 1) := by decide +kernel
theorem dX7_degree_1 : decode cX7_degree 1 = .ok (.aload_n 0, 1) := by decide +kernel
theorem dX7_degree_2 : decode cX7_degree 2 = .ok (.getfield 21, 3) := by decide +kernel
theorem dX7_degree_5 : decode cX7_degree 5 = .ok (.getfield 74, 3) := by decide +kernel
theorem dX7_degree_8 : decode cX7_degree 8 = .ok (.getfield 78, 3) := by decide +kernel
theorem dX7_degree_11 : decode cX7_degree 11 = .ok (.invokestatic 112, 3) := by decide +kernel
theorem dX7_degree_14 : decode cX7_degree 14 = .ok (.aload_n 0, 1) := by decide +kernel
theorem dX7_degree_15 : decode cX7_degree 15 = .ok (.getfield 21, 3) := by decide +kernel
theorem dX7_degree_18 : decode cX7_degree 18 = .ok (.getfield 74, 3) := by decide +kernel
theorem dX7_degree_21 : decode cX7_degree 21 = .ok (.iload_n 1, 1) := by decide +kernel
theorem dX7_degree_22 : decode cX7_degree 22 = .ok (.invokevirtual 131, 3) := by decide +kernel
theorem dX7_degree_25 : decode cX7_degree 25 = .ok (.ireturn, 1) := by decide +kernel
theorem dX7_parcelCount_0 : decode cX7_parcelCount 0 = .ok (.aload_n 0, 1) := by decide +kernel
theorem dX7_parcelCount_1 : decode cX7_parcelCount 1 = .ok (.getfield 21, 3) := by decide +kernel
theorem dX7_parcelCount_4 : decode cX7_parcelCount 4 = .ok (.getfield 134, 3) := by decide +kernel
theorem dX7_parcelCount_7 : decode cX7_parcelCount 7 = .ok (.ireturn, 1) := by decide +kernel
theorem dX7_idAt_0 : decode cX7_idAt 0 = .ok (.iload_n 1, 1) := by decide +kernel
theorem dX7_idAt_1 : decode cX7_idAt 1 = .ok (.aload_n 0, 1) := by decide +kernel
theorem dX7_idAt_2 : decode cX7_idAt 2 = .ok (.getfield 21, 3) := by decide +kernel
theorem dX7_idAt_5 : decode cX7_idAt 5 = .ok (.getfield 134, 3) := by decide +kernel
theorem dX7_idAt_8 : decode cX7_idAt 8 = .ok (.invokestatic 112, 3) := by decide +kernel
theorem dX7_idAt_11 : decode cX7_idAt 11 = .ok (.aload_n 0, 1) := by decide +kernel
theorem dX7_idAt_12 : decode cX7_idAt 12 = .ok (.getfield 21, 3) := by decide +kernel
theorem dX7_idAt_15 : decode cX7_idAt 15 = .ok (.getfield 135, 3) := by decide +kernel
theorem dX7_idAt_18 : decode cX7_idAt 18 = .ok (.iload_n 1, 1) := by decide +kernel
theorem dX7_idAt_19 : decode cX7_idAt 19 = .ok (.aaload, 1) := by decide +kernel
theorem dX7_idAt_20 : decode cX7_idAt 20 = .ok (.getfield 139, 3) := by decide +kernel
theorem dX7_idAt_23 : decode cX7_idAt 23 = .ok (.ireturn, 1) := by decide +kernel
theorem dX7_isTravelling_0 : decode cX7_isTravelling 0 = .ok (.aload_n 0, 1) := by decide +kernel
theorem dX7_isTravelling_1 : decode cX7_isTravelling 1 = .ok (.iload_n 1, 1) := by decide +kernel
theorem dX7_isTravelling_2 : decode cX7_isTravelling 2 = .ok (.invokevirtual 144, 3) := by decide +kernel
theorem dX7_isTravelling_5 : decode cX7_isTravelling 5 = .ok (.invokevirtual 148, 3) := by decide +kernel
theorem dX7_isTravelling_8 : decode cX7_isTravelling 8 = .ok (.ireturn, 1) := by decide +kernel
theorem dX7_placeOf_0 : decode cX7_placeOf 0 = .ok (.aload_n 0, 1) := by decide +kernel
theorem dX7_placeOf_1 : decode cX7_placeOf 1 = .ok (.iload_n 1, 1) := by decide +kernel
theorem dX7_placeOf_2 : decode cX7_placeOf 2 = .ok (.invokevirtual 152, 3) := by decide +kernel
theorem dX7_placeOf_5 : decode cX7_placeOf 5 = .ok (.getfield 155, 3) := by decide +kernel
theorem dX7_placeOf_8 : decode cX7_placeOf 8 = .ok (.ireturn, 1) := by decide +kernel
theorem dX7_linkOf_0 : decode cX7_linkOf 0 = .ok (.aload_n 0, 1) := by decide +kernel
theorem dX7_linkOf_1 : decode cX7_linkOf 1 = .ok (.iload_n 1, 1) := by decide +kernel
theorem dX7_linkOf_2 : decode cX7_linkOf 2 = .ok (.invokevirtual 158, 3) := by decide +kernel
theorem dX7_linkOf_5 : decode cX7_linkOf 5 = .ok (.getfield 161, 3) := by decide +kernel
theorem dX7_linkOf_8 : decode cX7_linkOf 8 = .ok (.ireturn, 1) := by decide +kernel
theorem dX7_arrivalOf_0 : decode cX7_arrivalOf 0 = .ok (.aload_n 0, 1) := by decide +kernel
theorem dX7_arrivalOf_1 : decode cX7_arrivalOf 1 = .ok (.iload_n 1, 1) := by decide +kernel
theorem dX7_arrivalOf_2 : decode cX7_arrivalOf 2 = .ok (.invokevirtual 158, 3) := by decide +kernel
theorem dX7_arrivalOf_5 : decode cX7_arrivalOf 5 = .ok (.getfield 164, 3) := by decide +kernel
theorem dX7_arrivalOf_8 : decode cX7_arrivalOf 8 = .ok (.ireturn, 1) := by decide +kernel
theorem dX7_destinationOf_0 : decode cX7_destinationOf 0 = .ok (.aload_n 0, 1) := by decide +kernel
theorem dX7_destinationOf_1 : decode cX7_destinationOf 1 = .ok (.iload_n 1, 1) := by decide +kernel
theorem dX7_destinationOf_2 : decode cX7_destinationOf 2 = .ok (.invokevirtual 144, 3) := by decide +kernel
theorem dX7_destinationOf_5 : decode cX7_destinationOf 5 = .ok (.getfield 167, 3) := by decide +kernel
theorem dX7_destinationOf_8 : decode cX7_destinationOf 8 = .ok (.ireturn, 1) := by decide +kernel
theorem dX7_weightOf_0 : decode cX7_weightOf 0 = .ok (.aload_n 0, 1) := by decide +kernel
theorem dX7_weightOf_1 : decode cX7_weightOf 1 = .ok (.iload_n 1, 1) := by decide +kernel
theorem dX7_weightOf_2 : decode cX7_weightOf 2 = .ok (.invokevirtual 144, 3) := by decide +kernel
theorem dX7_weightOf_5 : decode cX7_weightOf 5 = .ok (.getfield 170, 3) := by decide +kernel
theorem dX7_weightOf_8 : decode cX7_weightOf 8 = .ok (.ireturn, 1) := by decide +kernel
theorem dX7_stampsOf_0 : decode cX7_stampsOf 0 = .ok (.aload_n 0, 1) := by decide +kernel
theorem dX7_stampsOf_1 : decode cX7_stampsOf 1 = .ok (.iload_n 1, 1) := by decide +kernel
theorem dX7_stampsOf_2 : decode cX7_stampsOf 2 = .ok (.invokevirtual 144, 3) := by decide +kernel
theorem dX7_stampsOf_5 : decode cX7_stampsOf 5 = .ok (.getfield 173, 3) := by decide +kernel
theorem dX7_stampsOf_8 : decode cX7_stampsOf 8 = .ok (.ireturn, 1) := by decide +kernel
theorem dX7_waitingIn_0 : decode cX7_waitingIn 0 = .ok (.iload_n 1, 1) := by decide +kernel
theorem dX7_waitingIn_1 : decode cX7_waitingIn 1 = .ok (.aload_n 0, 1) := by decide +kernel
theorem dX7_waitingIn_2 : decode cX7_waitingIn 2 = .ok (.getfield 21, 3) := by decide +kernel
theorem dX7_waitingIn_5 : decode cX7_waitingIn 5 = .ok (.getfield 74, 3) := by decide +kernel
theorem dX7_waitingIn_8 : decode cX7_waitingIn 8 = .ok (.getfield 78, 3) := by decide +kernel
theorem dX7_waitingIn_11 : decode cX7_waitingIn 11 = .ok (.invokestatic 112, 3) := by decide +kernel
theorem dX7_waitingIn_14 : decode cX7_waitingIn 14 = .ok (.aload_n 0, 1) := by decide +kernel
theorem dX7_waitingIn_15 : decode cX7_waitingIn 15 = .ok (.getfield 21, 3) := by decide +kernel
theorem dX7_waitingIn_18 : decode cX7_waitingIn 18 = .ok (.iload_n 1, 1) := by decide +kernel
theorem dX7_waitingIn_19 : decode cX7_waitingIn 19 = .ok (.invokevirtual 176, 3) := by decide +kernel
theorem dX7_waitingIn_22 : decode cX7_waitingIn 22 = .ok (.ireturn, 1) := by decide +kernel
theorem dX7_earliestArrival_0 : decode cX7_earliestArrival 0 = .ok (.iload_n 1, 1) := by decide +kernel
theorem dX7_earliestArrival_1 : decode cX7_earliestArrival 1 = .ok (.aload_n 0, 1) := by decide +kernel
theorem dX7_earliestArrival_2 : decode cX7_earliestArrival 2 = .ok (.getfield 21, 3) := by decide +kernel
theorem dX7_earliestArrival_5 : decode cX7_earliestArrival 5 = .ok (.getfield 74, 3) := by decide +kernel
theorem dX7_earliestArrival_8 : decode cX7_earliestArrival 8 = .ok (.getfield 78, 3) := by decide +kernel
theorem dX7_earliestArrival_11 : decode cX7_earliestArrival 11 = .ok (.invokestatic 112, 3) := by decide +kernel
theorem dX7_earliestArrival_14 : decode cX7_earliestArrival 14 = .ok (.iload_n 2, 1) := by decide +kernel
theorem dX7_earliestArrival_15 : decode cX7_earliestArrival 15 = .ok (.aload_n 0, 1) := by decide +kernel
theorem dX7_earliestArrival_16 : decode cX7_earliestArrival 16 = .ok (.getfield 21, 3) := by decide +kernel
theorem dX7_earliestArrival_19 : decode cX7_earliestArrival 19 = .ok (.getfield 74, 3) := by decide +kernel
theorem dX7_earliestArrival_22 : decode cX7_earliestArrival 22 = .ok (.getfield 78, 3) := by decide +kernel
theorem dX7_earliestArrival_25 : decode cX7_earliestArrival 25 = .ok (.invokestatic 112, 3) := by decide +kernel
theorem dX7_earliestArrival_28 : decode cX7_earliestArrival 28 = .ok (.iload_n 3, 1) := by decide +kernel
theorem dX7_earliestArrival_29 : decode cX7_earliestArrival 29 = .ok (.invokestatic 104, 3) := by decide +kernel
theorem dX7_earliestArrival_32 : decode cX7_earliestArrival 32 = .ok (.aload_n 0, 1) := by decide +kernel
theorem dX7_earliestArrival_33 : decode cX7_earliestArrival 33 = .ok (.getfield 10, 3) := by decide +kernel
theorem dX7_earliestArrival_36 : decode cX7_earliestArrival 36 = .ok (.aload_n 0, 1) := by decide +kernel
theorem dX7_earliestArrival_37 : decode cX7_earliestArrival 37 = .ok (.getfield 21, 3) := by decide +kernel
theorem dX7_earliestArrival_40 : decode cX7_earliestArrival 40 = .ok (.getfield 74, 3) := by decide +kernel
theorem dX7_earliestArrival_43 : decode cX7_earliestArrival 43 = .ok (.iload_n 1, 1) := by decide +kernel
theorem dX7_earliestArrival_44 : decode cX7_earliestArrival 44 = .ok (.iload_n 2, 1) := by decide +kernel
theorem dX7_earliestArrival_45 : decode cX7_earliestArrival 45 = .ok (.iload_n 3, 1) := by decide +kernel
theorem dX7_earliestArrival_46 : decode cX7_earliestArrival 46 = .ok (.invokevirtual 179, 3) := by decide +kernel
theorem dX7_earliestArrival_49 : decode cX7_earliestArrival 49 = .ok (.invokestatic 183, 3) := by decide +kernel
theorem dX7_earliestArrival_52 : decode cX7_earliestArrival 52 = .ok (.ireturn, 1) := by decide +kernel
theorem dX7_earliestArrivalByHours_0 : decode cX7_earliestArrivalByHours 0 = .ok (.iload_n 1, 1) := by decide +kernel
theorem dX7_earliestArrivalByHours_1 : decode cX7_earliestArrivalByHours 1 = .ok (.aload_n 0, 1) := by decide +kernel
theorem dX7_earliestArrivalByHours_2 : decode cX7_earliestArrivalByHours 2 = .ok (.getfield 21, 3) := by decide +kernel
theorem dX7_earliestArrivalByHours_5 : decode cX7_earliestArrivalByHours 5 = .ok (.getfield 74, 3) := by decide +kernel
theorem dX7_earliestArrivalByHours_8 : decode cX7_earliestArrivalByHours 8 = .ok (.getfield 78, 3) := by decide +kernel
theorem dX7_earliestArrivalByHours_11 : decode cX7_earliestArrivalByHours 11 = .ok (.invokestatic 112, 3) := by decide +kernel
theorem dX7_earliestArrivalByHours_14 : decode cX7_earliestArrivalByHours 14 = .ok (.iload_n 2, 1) := by decide +kernel
theorem dX7_earliestArrivalByHours_15 : decode cX7_earliestArrivalByHours 15 = .ok (.aload_n 0, 1) := by decide +kernel
theorem dX7_earliestArrivalByHours_16 : decode cX7_earliestArrivalByHours 16 = .ok (.getfield 21, 3) := by decide +kernel
theorem dX7_earliestArrivalByHours_19 : decode cX7_earliestArrivalByHours 19 = .ok (.getfield 74, 3) := by decide +kernel
theorem dX7_earliestArrivalByHours_22 : decode cX7_earliestArrivalByHours 22 = .ok (.getfield 78, 3) := by decide +kernel
theorem dX7_earliestArrivalByHours_25 : decode cX7_earliestArrivalByHours 25 = .ok (.invokestatic 112, 3) := by decide +kernel
theorem dX7_earliestArrivalByHours_28 : decode cX7_earliestArrivalByHours 28 = .ok (.iload_n 3, 1) := by decide +kernel
theorem dX7_earliestArrivalByHours_29 : decode cX7_earliestArrivalByHours 29 = .ok (.invokestatic 104, 3) := by decide +kernel
theorem dX7_earliestArrivalByHours_32 : decode cX7_earliestArrivalByHours 32 = .ok (.aload_n 0, 1) := by decide +kernel
theorem dX7_earliestArrivalByHours_33 : decode cX7_earliestArrivalByHours 33 = .ok (.getfield 10, 3) := by decide +kernel
theorem dX7_earliestArrivalByHours_36 : decode cX7_earliestArrivalByHours 36 = .ok (.aload_n 0, 1) := by decide +kernel
theorem dX7_earliestArrivalByHours_37 : decode cX7_earliestArrivalByHours 37 = .ok (.getfield 21, 3) := by decide +kernel
theorem dX7_earliestArrivalByHours_40 : decode cX7_earliestArrivalByHours 40 = .ok (.getfield 74, 3) := by decide +kernel
theorem dX7_earliestArrivalByHours_43 : decode cX7_earliestArrivalByHours 43 = .ok (.iload_n 1, 1) := by decide +kernel
theorem dX7_earliestArrivalByHours_44 : decode cX7_earliestArrivalByHours 44 = .ok (.iload_n 2, 1) := by decide +kernel
theorem dX7_earliestArrivalByHours_45 : decode cX7_earliestArrivalByHours 45 = .ok (.iload_n 3, 1) := by decide +kernel
theorem dX7_earliestArrivalByHours_46 : decode cX7_earliestArrivalByHours 46 = .ok (.invokevirtual 186, 3) := by decide +kernel
theorem dX7_earliestArrivalByHours_49 : decode cX7_earliestArrivalByHours 49 = .ok (.invokestatic 183, 3) := by decide +kernel
theorem dX7_earliestArrivalByHours_52 : decode cX7_earliestArrivalByHours 52 = .ok (.ireturn, 1) := by decide +kernel
theorem dX7_fewestLinks_0 : decode cX7_fewestLinks 0 = .ok (.iload_n 1, 1) := by decide +kernel
theorem dX7_fewestLinks_1 : decode cX7_fewestLinks 1 = .ok (.aload_n 0, 1) := by decide +kernel
theorem dX7_fewestLinks_2 : decode cX7_fewestLinks 2 = .ok (.getfield 21, 3) := by decide +kernel
theorem dX7_fewestLinks_5 : decode cX7_fewestLinks 5 = .ok (.getfield 74, 3) := by decide +kernel
theorem dX7_fewestLinks_8 : decode cX7_fewestLinks 8 = .ok (.getfield 78, 3) := by decide +kernel
theorem dX7_fewestLinks_11 : decode cX7_fewestLinks 11 = .ok (.invokestatic 112, 3) := by decide +kernel
theorem dX7_fewestLinks_14 : decode cX7_fewestLinks 14 = .ok (.iload_n 2, 1) := by decide +kernel
theorem dX7_fewestLinks_15 : decode cX7_fewestLinks 15 = .ok (.aload_n 0, 1) := by decide +kernel
theorem dX7_fewestLinks_16 : decode cX7_fewestLinks 16 = .ok (.getfield 21, 3) := by decide +kernel
theorem dX7_fewestLinks_19 : decode cX7_fewestLinks 19 = .ok (.getfield 74, 3) := by decide +kernel
theorem dX7_fewestLinks_22 : decode cX7_fewestLinks 22 = .ok (.getfield 78, 3) := by decide +kernel
theorem dX7_fewestLinks_25 : decode cX7_fewestLinks 25 = .ok (.invokestatic 112, 3) := by decide +kernel
theorem dX7_fewestLinks_28 : decode cX7_fewestLinks 28 = .ok (.aload_n 0, 1) := by decide +kernel
theorem dX7_fewestLinks_29 : decode cX7_fewestLinks 29 = .ok (.getfield 10, 3) := by decide +kernel
theorem dX7_fewestLinks_32 : decode cX7_fewestLinks 32 = .ok (.aload_n 0, 1) := by decide +kernel
theorem dX7_fewestLinks_33 : decode cX7_fewestLinks 33 = .ok (.getfield 21, 3) := by decide +kernel
theorem dX7_fewestLinks_36 : decode cX7_fewestLinks 36 = .ok (.getfield 74, 3) := by decide +kernel
theorem dX7_fewestLinks_39 : decode cX7_fewestLinks 39 = .ok (.iload_n 1, 1) := by decide +kernel
theorem dX7_fewestLinks_40 : decode cX7_fewestLinks 40 = .ok (.iload_n 2, 1) := by decide +kernel
theorem dX7_fewestLinks_41 : decode cX7_fewestLinks 41 = .ok (.invokevirtual 189, 3) := by decide +kernel
theorem dX7_fewestLinks_44 : decode cX7_fewestLinks 44 = .ok (.invokestatic 193, 3) := by decide +kernel
theorem dX7_fewestLinks_47 : decode cX7_fewestLinks 47 = .ok (.ireturn, 1) := by decide +kernel
theorem dX7_reachable_0 : decode cX7_reachable 0 = .ok (.iload_n 1, 1) := by decide +kernel
theorem dX7_reachable_1 : decode cX7_reachable 1 = .ok (.aload_n 0, 1) := by decide +kernel
theorem dX7_reachable_2 : decode cX7_reachable 2 = .ok (.getfield 21, 3) := by decide +kernel
theorem dX7_reachable_5 : decode cX7_reachable 5 = .ok (.getfield 74, 3) := by decide +kernel
theorem dX7_reachable_8 : decode cX7_reachable 8 = .ok (.getfield 78, 3) := by decide +kernel
theorem dX7_reachable_11 : decode cX7_reachable 11 = .ok (.invokestatic 112, 3) := by decide +kernel
theorem dX7_reachable_14 : decode cX7_reachable 14 = .ok (.aload_n 0, 1) := by decide +kernel
theorem dX7_reachable_15 : decode cX7_reachable 15 = .ok (.getfield 10, 3) := by decide +kernel
theorem dX7_reachable_18 : decode cX7_reachable 18 = .ok (.aload_n 0, 1) := by decide +kernel
theorem dX7_reachable_19 : decode cX7_reachable 19 = .ok (.getfield 21, 3) := by decide +kernel
theorem dX7_reachable_22 : decode cX7_reachable 22 = .ok (.getfield 74, 3) := by decide +kernel
theorem dX7_reachable_25 : decode cX7_reachable 25 = .ok (.iload_n 1, 1) := by decide +kernel
theorem dX7_reachable_26 : decode cX7_reachable 26 = .ok (.invokevirtual 196, 3) := by decide +kernel
theorem dX7_reachable_29 : decode cX7_reachable 29 = .ok (.ireturn, 1) := by decide +kernel
theorem dX7_forecast_0 : decode cX7_forecast 0 = .ok (.aload_n 0, 1) := by decide +kernel
theorem dX7_forecast_1 : decode cX7_forecast 1 = .ok (.getfield 21, 3) := by decide +kernel
theorem dX7_forecast_4 : decode cX7_forecast 4 = .ok (.aload_n 0, 1) := by decide +kernel
theorem dX7_forecast_5 : decode cX7_forecast 5 = .ok (.iload_n 1, 1) := by decide +kernel
theorem dX7_forecast_6 : decode cX7_forecast 6 = .ok (.invokevirtual 144, 3) := by decide +kernel
theorem dX7_forecast_9 : decode cX7_forecast 9 = .ok (.invokevirtual 200, 3) := by decide +kernel
theorem dX7_forecast_12 : decode cX7_forecast 12 = .ok (.invokestatic 183, 3) := by decide +kernel
theorem dX7_forecast_15 : decode cX7_forecast 15 = .ok (.ireturn, 1) := by decide +kernel
theorem dX7_nextLink_0 : decode cX7_nextLink 0 = .ok (.aload_n 0, 1) := by decide +kernel
theorem dX7_nextLink_1 : decode cX7_nextLink 1 = .ok (.getfield 21, 3) := by decide +kernel
theorem dX7_nextLink_4 : decode cX7_nextLink 4 = .ok (.aload_n 0, 1) := by decide +kernel
theorem dX7_nextLink_5 : decode cX7_nextLink 5 = .ok (.iload_n 1, 1) := by decide +kernel
theorem dX7_nextLink_6 : decode cX7_nextLink 6 = .ok (.invokevirtual 152, 3) := by decide +kernel
theorem dX7_nextLink_9 : decode cX7_nextLink 9 = .ok (.invokevirtual 204, 3) := by decide +kernel
theorem dX7_nextLink_12 : decode cX7_nextLink 12 = .ok (.istore_n 2, 1) := by decide +kernel
theorem dX7_nextLink_13 : decode cX7_nextLink 13 = .ok (.iload_n 2, 1) := by decide +kernel
theorem dX7_nextLink_14 : decode cX7_nextLink 14 = .ok (.iconst (-1), 1) := by decide +kernel
theorem dX7_nextLink_15 : decode cX7_nextLink 15 = .ok (.if_icmp .ne 13, 3) := by decide +kernel
theorem dX7_nextLink_18 : decode cX7_nextLink 18 = .ok (.new 120, 3) := by decide +kernel
theorem dX7_nextLink_21 : decode cX7_nextLink 21 = .ok (.dup, 1) := by decide +kernel
theorem dX7_nextLink_22 : decode cX7_nextLink 22 = .ok (.ldc 207, 2) := by decide +kernel
theorem dX7_nextLink_24 : decode cX7_nextLink 24 = .ok (.invokespecial 124, 3) := by decide +kernel
theorem dX7_nextLink_27 : decode cX7_nextLink 27 = .ok (.athrow, 1) := by decide +kernel
theorem dX7_nextLink_28 : decode cX7_nextLink 28 = .ok (.iload_n 2, 1) := by decide +kernel
theorem dX7_nextLink_29 : decode cX7_nextLink 29 = .ok (.ireturn, 1) := by decide +kernel
theorem dX7_canSend_0 : decode cX7_canSend 0 = .ok (.aload_n 0, 1) := by decide +kernel
theorem dX7_canSend_1 : decode cX7_canSend 1 = .ok (.getfield 21, 3) := by decide +kernel
theorem dX7_canSend_4 : decode cX7_canSend 4 = .ok (.iconst 5, 1) := by decide +kernel
theorem dX7_canSend_5 : decode cX7_canSend 5 = .ok (.iload_n 1, 1) := by decide +kernel
theorem dX7_canSend_6 : decode cX7_canSend 6 = .ok (.iload_n 2, 1) := by decide +kernel
theorem dX7_canSend_7 : decode cX7_canSend 7 = .ok (.iconst 0, 1) := by decide +kernel
theorem dX7_canSend_8 : decode cX7_canSend 8 = .ok (.iconst 0, 1) := by decide +kernel
theorem dX7_canSend_9 : decode cX7_canSend 9 = .ok (.invokevirtual 209, 3) := by decide +kernel
theorem dX7_canSend_12 : decode cX7_canSend 12 = .ok (.istore_n 3, 1) := by decide +kernel
theorem dX7_canSend_13 : decode cX7_canSend 13 = .ok (.iload_n 3, 1) := by decide +kernel
theorem dX7_canSend_14 : decode cX7_canSend 14 = .ok (.iconst 3, 1) := by decide +kernel
theorem dX7_canSend_15 : decode cX7_canSend 15 = .ok (.if_icmp .ne 5, 3) := by decide +kernel
theorem dX7_canSend_18 : decode cX7_canSend 18 = .ok (.iconst 0, 1) := by decide +kernel
theorem dX7_canSend_19 : decode cX7_canSend 19 = .ok (.ireturn, 1) := by decide +kernel
theorem dX7_canSend_20 : decode cX7_canSend 20 = .ok (.iload_n 3, 1) := by decide +kernel
theorem dX7_canSend_21 : decode cX7_canSend 21 = .ok (.invokestatic 212, 3) := by decide +kernel
theorem dX7_canSend_24 : decode cX7_canSend 24 = .ok (.iconst 1, 1) := by decide +kernel
theorem dX7_canSend_25 : decode cX7_canSend 25 = .ok (.ireturn, 1) := by decide +kernel
theorem dX7_stampsMissing_0 : decode cX7_stampsMissing 0 = .ok (.aload_n 0, 1) := by decide +kernel
theorem dX7_stampsMissing_1 : decode cX7_stampsMissing 1 = .ok (.iload_n 1, 1) := by decide +kernel
theorem dX7_stampsMissing_2 : decode cX7_stampsMissing 2 = .ok (.invokevirtual 144, 3) := by decide +kernel
theorem dX7_stampsMissing_5 : decode cX7_stampsMissing 5 = .ok (.astore_n 2, 1) := by decide +kernel
theorem dX7_stampsMissing_6 : decode cX7_stampsMissing 6 = .ok (.aload_n 0, 1) := by decide +kernel
theorem dX7_stampsMissing_7 : decode cX7_stampsMissing 7 = .ok (.getfield 10, 3) := by decide +kernel
theorem dX7_stampsMissing_10 : decode cX7_stampsMissing 10 = .ok (.aload_n 0, 1) := by decide +kernel
theorem dX7_stampsMissing_11 : decode cX7_stampsMissing 11 = .ok (.getfield 21, 3) := by decide +kernel
theorem dX7_stampsMissing_14 : decode cX7_stampsMissing 14 = .ok (.getfield 74, 3) := by decide +kernel
theorem dX7_stampsMissing_17 : decode cX7_stampsMissing 17 = .ok (.aload_n 2, 1) := by decide +kernel
theorem dX7_stampsMissing_18 : decode cX7_stampsMissing 18 = .ok (.getfield 155, 3) := by decide +kernel
theorem dX7_stampsMissing_21 : decode cX7_stampsMissing 21 = .ok (.aload_n 2, 1) := by decide +kernel
theorem dX7_stampsMissing_22 : decode cX7_stampsMissing 22 = .ok (.getfield 167, 3) := by decide +kernel
theorem dX7_stampsMissing_25 : decode cX7_stampsMissing 25 = .ok (.invokevirtual 189, 3) := by decide +kernel
theorem dX7_stampsMissing_28 : decode cX7_stampsMissing 28 = .ok (.invokestatic 193, 3) := by decide +kernel
theorem dX7_stampsMissing_31 : decode cX7_stampsMissing 31 = .ok (.istore_n 3, 1) := by decide +kernel
theorem dX7_stampsMissing_32 : decode cX7_stampsMissing 32 = .ok (.iconst 0, 1) := by decide +kernel
theorem dX7_stampsMissing_33 : decode cX7_stampsMissing 33 = .ok (.iload_n 3, 1) := by decide +kernel
theorem dX7_stampsMissing_34 : decode cX7_stampsMissing 34 = .ok (.aload_n 2, 1) := by decide +kernel
theorem dX7_stampsMissing_35 : decode cX7_stampsMissing 35 = .ok (.getfield 173, 3) := by decide +kernel
theorem dX7_stampsMissing_38 : decode cX7_stampsMissing 38 = .ok (.isub, 1) := by decide +kernel
theorem dX7_stampsMissing_39 : decode cX7_stampsMissing 39 = .ok (.invokestatic 215, 3) := by decide +kernel
theorem dX7_stampsMissing_42 : decode cX7_stampsMissing 42 = .ok (.ireturn, 1) := by decide +kernel
theorem dX7_parcelByForecast_0 : decode cX7_parcelByForecast 0 = .ok (.iload_n 1, 1) := by decide +kernel
theorem dX7_parcelByForecast_1 : decode cX7_parcelByForecast 1 = .ok (.ifCond .lt 14, 3) := by decide +kernel
theorem dX7_parcelByForecast_4 : decode cX7_parcelByForecast 4 = .ok (.iload_n 1, 1) := by decide +kernel
theorem dX7_parcelByForecast_5 : decode cX7_parcelByForecast 5 = .ok (.aload_n 0, 1) := by decide +kernel
theorem dX7_parcelByForecast_6 : decode cX7_parcelByForecast 6 = .ok (.getfield 21, 3) := by decide +kernel
theorem dX7_parcelByForecast_9 : decode cX7_parcelByForecast 9 = .ok (.getfield 134, 3) := by decide +kernel
theorem dX7_parcelByForecast_12 : decode cX7_parcelByForecast 12 = .ok (.if_icmp .lt 13, 3) := by decide +kernel
theorem dX7_parcelByForecast_15 : decode cX7_parcelByForecast 15 = .ok (.new 120, 3) := by decide +kernel
theorem dX7_parcelByForecast_18 : decode cX7_parcelByForecast 18 = .ok (.dup, 1) := by decide +kernel
theorem dX7_parcelByForecast_19 : decode cX7_parcelByForecast 19 = .ok (.ldc 221, 2) := by decide +kernel
theorem dX7_parcelByForecast_21 : decode cX7_parcelByForecast 21 = .ok (.invokespecial 124, 3) := by decide +kernel
theorem dX7_parcelByForecast_24 : decode cX7_parcelByForecast 24 = .ok (.athrow, 1) := by decide +kernel
theorem dX7_parcelByForecast_25 : decode cX7_parcelByForecast 25 = .ok (.iconst 0, 1) := by decide +kernel
theorem dX7_parcelByForecast_26 : decode cX7_parcelByForecast 26 = .ok (.istore_n 2, 1) := by decide +kernel
theorem dX7_parcelByForecast_27 : decode cX7_parcelByForecast 27 = .ok (.iload_n 2, 1) := by decide +kernel
theorem dX7_parcelByForecast_28 : decode cX7_parcelByForecast 28 = .ok (.aload_n 0, 1) := by decide +kernel
theorem dX7_parcelByForecast_29 : decode cX7_parcelByForecast 29 = .ok (.getfield 21, 3) := by decide +kernel
theorem dX7_parcelByForecast_32 : decode cX7_parcelByForecast 32 = .ok (.getfield 134, 3) := by decide +kernel
theorem dX7_parcelByForecast_35 : decode cX7_parcelByForecast 35 = .ok (.if_icmp .ge 31, 3) := by decide +kernel
theorem dX7_parcelByForecast_38 : decode cX7_parcelByForecast 38 = .ok (.aload_n 0, 1) := by decide +kernel
theorem dX7_parcelByForecast_39 : decode cX7_parcelByForecast 39 = .ok (.getfield 49, 3) := by decide +kernel
theorem dX7_parcelByForecast_42 : decode cX7_parcelByForecast 42 = .ok (.iload_n 2, 1) := by decide +kernel
theorem dX7_parcelByForecast_43 : decode cX7_parcelByForecast 43 = .ok (.aload_n 0, 1) := by decide +kernel
theorem dX7_parcelByForecast_44 : decode cX7_parcelByForecast 44 = .ok (.getfield 21, 3) := by decide +kernel
theorem dX7_parcelByForecast_47 : decode cX7_parcelByForecast 47 = .ok (.aload_n 0, 1) := by decide +kernel
theorem dX7_parcelByForecast_48 : decode cX7_parcelByForecast 48 = .ok (.getfield 21, 3) := by decide +kernel
theorem dX7_parcelByForecast_51 : decode cX7_parcelByForecast 51 = .ok (.getfield 135, 3) := by decide +kernel
theorem dX7_parcelByForecast_54 : decode cX7_parcelByForecast 54 = .ok (.iload_n 2, 1) := by decide +kernel
theorem dX7_parcelByForecast_55 : decode cX7_parcelByForecast 55 = .ok (.aaload, 1) := by decide +kernel
theorem dX7_parcelByForecast_56 : decode cX7_parcelByForecast 56 = .ok (.invokevirtual 200, 3) := by decide +kernel
theorem dX7_parcelByForecast_59 : decode cX7_parcelByForecast 59 = .ok (.iastore, 1) := by decide +kernel
theorem dX7_parcelByForecast_60 : decode cX7_parcelByForecast 60 = .ok (.iinc 2 1, 3) := by decide +kernel
theorem dX7_parcelByForecast_63 : decode cX7_parcelByForecast 63 = .ok (.goto (-36), 3) := by decide +kernel
theorem dX7_parcelByForecast_66 : decode cX7_parcelByForecast 66 = .ok (.aload_n 0, 1) := by decide +kernel
theorem dX7_parcelByForecast_67 : decode cX7_parcelByForecast 67 = .ok (.getfield 21, 3) := by decide +kernel
theorem dX7_parcelByForecast_70 : decode cX7_parcelByForecast 70 = .ok (.getfield 135, 3) := by decide +kernel
theorem dX7_parcelByForecast_73 : decode cX7_parcelByForecast 73 = .ok (.aload_n 0, 1) := by decide +kernel
theorem dX7_parcelByForecast_74 : decode cX7_parcelByForecast 74 = .ok (.iload_n 1, 1) := by decide +kernel
theorem dX7_parcelByForecast_75 : decode cX7_parcelByForecast 75 = .ok (.invokevirtual 223, 3) := by decide +kernel
theorem dX7_parcelByForecast_78 : decode cX7_parcelByForecast 78 = .ok (.aaload, 1) := by decide +kernel
theorem dX7_parcelByForecast_79 : decode cX7_parcelByForecast 79 = .ok (.getfield 139, 3) := by decide +kernel
theorem dX7_parcelByForecast_82 : decode cX7_parcelByForecast 82 = .ok (.ireturn, 1) := by decide +kernel
theorem dX7_arrivalsWithin_0 : decode cX7_arrivalsWithin 0 = .ok (.iload_n 1, 1) := by decide +kernel
theorem dX7_arrivalsWithin_1 : decode cX7_arrivalsWithin 1 = .ok (.iconst 1, 1) := by decide +kernel
theorem dX7_arrivalsWithin_2 : decode cX7_arrivalsWithin 2 = .ok (.bipush 120, 2) := by decide +kernel
theorem dX7_arrivalsWithin_4 : decode cX7_arrivalsWithin 4 = .ok (.invokestatic 226, 3) := by decide +kernel
theorem dX7_arrivalsWithin_7 : decode cX7_arrivalsWithin 7 = .ok (.aload_n 0, 1) := by decide +kernel
theorem dX7_arrivalsWithin_8 : decode cX7_arrivalsWithin 8 = .ok (.getfield 21, 3) := by decide +kernel
theorem dX7_arrivalsWithin_11 : decode cX7_arrivalsWithin 11 = .ok (.iload_n 1, 1) := by decide +kernel
theorem dX7_arrivalsWithin_12 : decode cX7_arrivalsWithin 12 = .ok (.invokevirtual 230, 3) := by decide +kernel
theorem dX7_arrivalsWithin_15 : decode cX7_arrivalsWithin 15 = .ok (.ireturn, 1) := by decide +kernel
theorem dX7_deliveredIf_0 : decode cX7_deliveredIf 0 = .ok (.iload_n 1, 1) := by decide +kernel
theorem dX7_deliveredIf_1 : decode cX7_deliveredIf 1 = .ok (.iconst 1, 1) := by decide +kernel
theorem dX7_deliveredIf_2 : decode cX7_deliveredIf 2 = .ok (.bipush 60, 2) := by decide +kernel
theorem dX7_deliveredIf_4 : decode cX7_deliveredIf 4 = .ok (.invokestatic 226, 3) := by decide +kernel
theorem dX7_deliveredIf_7 : decode cX7_deliveredIf 7 = .ok (.aload_n 0, 1) := by decide +kernel
theorem dX7_deliveredIf_8 : decode cX7_deliveredIf 8 = .ok (.getfield 25, 3) := by decide +kernel
theorem dX7_deliveredIf_11 : decode cX7_deliveredIf 11 = .ok (.aload_n 0, 1) := by decide +kernel
theorem dX7_deliveredIf_12 : decode cX7_deliveredIf 12 = .ok (.getfield 21, 3) := by decide +kernel
theorem dX7_deliveredIf_15 : decode cX7_deliveredIf 15 = .ok (.invokevirtual 233, 3) := by decide +kernel
theorem dX7_deliveredIf_18 : decode cX7_deliveredIf 18 = .ok (.iconst 0, 1) := by decide +kernel
theorem dX7_deliveredIf_19 : decode cX7_deliveredIf 19 = .ok (.istore_n 2, 1) := by decide +kernel
theorem dX7_deliveredIf_20 : decode cX7_deliveredIf 20 = .ok (.iconst 0, 1) := by decide +kernel
theorem dX7_deliveredIf_21 : decode cX7_deliveredIf 21 = .ok (.istore_n 3, 1) := by decide +kernel
theorem dX7_deliveredIf_22 : decode cX7_deliveredIf 22 = .ok (.iload_n 3, 1) := by decide +kernel
theorem dX7_deliveredIf_23 : decode cX7_deliveredIf 23 = .ok (.iload_n 1, 1) := by decide +kernel
theorem dX7_deliveredIf_24 : decode cX7_deliveredIf 24 = .ok (.if_icmp .ge 27, 3) := by decide +kernel
theorem dX7_deliveredIf_27 : decode cX7_deliveredIf 27 = .ok (.aload_n 0, 1) := by decide +kernel
theorem dX7_deliveredIf_28 : decode cX7_deliveredIf 28 = .ok (.getfield 25, 3) := by decide +kernel
theorem dX7_deliveredIf_31 : decode cX7_deliveredIf 31 = .ok (.invokevirtual 237, 3) := by decide +kernel
theorem dX7_deliveredIf_34 : decode cX7_deliveredIf 34 = .ok (.pop, 1) := by decide +kernel
theorem dX7_deliveredIf_35 : decode cX7_deliveredIf 35 = .ok (.iload_n 2, 1) := by decide +kernel
theorem dX7_deliveredIf_36 : decode cX7_deliveredIf 36 = .ok (.aload_n 0, 1) := by decide +kernel
theorem dX7_deliveredIf_37 : decode cX7_deliveredIf 37 = .ok (.getfield 25, 3) := by decide +kernel
theorem dX7_deliveredIf_40 : decode cX7_deliveredIf 40 = .ok (.invokevirtual 240, 3) := by decide +kernel
theorem dX7_deliveredIf_43 : decode cX7_deliveredIf 43 = .ok (.iadd, 1) := by decide +kernel
theorem dX7_deliveredIf_44 : decode cX7_deliveredIf 44 = .ok (.istore_n 2, 1) := by decide +kernel
theorem dX7_deliveredIf_45 : decode cX7_deliveredIf 45 = .ok (.iinc 3 1, 3) := by decide +kernel
theorem dX7_deliveredIf_48 : decode cX7_deliveredIf 48 = .ok (.goto (-26), 3) := by decide +kernel
theorem dX7_deliveredIf_51 : decode cX7_deliveredIf 51 = .ok (.iload_n 2, 1) := by decide +kernel
theorem dX7_deliveredIf_52 : decode cX7_deliveredIf 52 = .ok (.ireturn, 1) := by decide +kernel
theorem dX7_postedTotal_0 : decode cX7_postedTotal 0 = .ok (.aload_n 0, 1) := by decide +kernel
theorem dX7_postedTotal_1 : decode cX7_postedTotal 1 = .ok (.getfield 21, 3) := by decide +kernel
theorem dX7_postedTotal_4 : decode cX7_postedTotal 4 = .ok (.getfield 243, 3) := by decide +kernel
theorem dX7_postedTotal_7 : decode cX7_postedTotal 7 = .ok (.ireturn, 1) := by decide +kernel
theorem dX7_deliveredTotal_0 : decode cX7_deliveredTotal 0 = .ok (.aload_n 0, 1) := by decide +kernel
theorem dX7_deliveredTotal_1 : decode cX7_deliveredTotal 1 = .ok (.getfield 21, 3) := by decide +kernel
theorem dX7_deliveredTotal_4 : decode cX7_deliveredTotal 4 = .ok (.getfield 246, 3) := by decide +kernel
theorem dX7_deliveredTotal_7 : decode cX7_deliveredTotal 7 = .ok (.ireturn, 1) := by decide +kernel
theorem dX7_takenBackTotal_0 : decode cX7_takenBackTotal 0 = .ok (.aload_n 0, 1) := by decide +kernel
theorem dX7_takenBackTotal_1 : decode cX7_takenBackTotal 1 = .ok (.getfield 21, 3) := by decide +kernel
theorem dX7_takenBackTotal_4 : decode cX7_takenBackTotal 4 = .ok (.getfield 249, 3) := by decide +kernel
theorem dX7_takenBackTotal_7 : decode cX7_takenBackTotal 7 = .ok (.ireturn, 1) := by decide +kernel
theorem dX7_usedStamps_0 : decode cX7_usedStamps 0 = .ok (.aload_n 0, 1) := by decide +kernel
theorem dX7_usedStamps_1 : decode cX7_usedStamps 1 = .ok (.getfield 21, 3) := by decide +kernel
theorem dX7_usedStamps_4 : decode cX7_usedStamps 4 = .ok (.getfield 252, 3) := by decide +kernel
theorem dX7_usedStamps_7 : decode cX7_usedStamps 7 = .ok (.ireturn, 1) := by decide +kernel
theorem dX7_meanStamps_0 : decode cX7_meanStamps 0 = .ok (.aload_n 0, 1) := by decide +kernel
theorem dX7_meanStamps_1 : decode cX7_meanStamps 1 = .ok (.getfield 21, 3) := by decide +kernel
theorem dX7_meanStamps_4 : decode cX7_meanStamps 4 = .ok (.getfield 134, 3) := by decide +kernel
theorem dX7_meanStamps_7 : decode cX7_meanStamps 7 = .ok (.ifCond .ne 14, 3) := by decide +kernel
theorem dX7_meanStamps_10 : decode cX7_meanStamps 10 = .ok (.new 255, 3) := by decide +kernel
theorem dX7_meanStamps_13 : decode cX7_meanStamps 13 = .ok (.dup, 1) := by decide +kernel
theorem dX7_meanStamps_14 : decode cX7_meanStamps 14 = .ok (.ldc_w 257, 3) := by decide +kernel
theorem dX7_meanStamps_17 : decode cX7_meanStamps 17 = .ok (.invokespecial 259, 3) := by decide +kernel
theorem dX7_meanStamps_20 : decode cX7_meanStamps 20 = .ok (.athrow, 1) := by decide +kernel
theorem dX7_meanStamps_21 : decode cX7_meanStamps 21 = .ok (.aload_n 0, 1) := by decide +kernel
theorem dX7_meanStamps_22 : decode cX7_meanStamps 22 = .ok (.getfield 21, 3) := by decide +kernel
theorem dX7_meanStamps_25 : decode cX7_meanStamps 25 = .ok (.invokevirtual 260, 3) := by decide +kernel
theorem dX7_meanStamps_28 : decode cX7_meanStamps 28 = .ok (.i2d, 1) := by decide +kernel
theorem dX7_meanStamps_29 : decode cX7_meanStamps 29 = .ok (.aload_n 0, 1) := by decide +kernel
theorem dX7_meanStamps_30 : decode cX7_meanStamps 30 = .ok (.getfield 21, 3) := by decide +kernel
theorem dX7_meanStamps_33 : decode cX7_meanStamps 33 = .ok (.getfield 134, 3) := by decide +kernel
theorem dX7_meanStamps_36 : decode cX7_meanStamps 36 = .ok (.i2d, 1) := by decide +kernel
theorem dX7_meanStamps_37 : decode cX7_meanStamps 37 = .ok (.ddiv, 1) := by decide +kernel
theorem dX7_meanStamps_38 : decode cX7_meanStamps 38 = .ok (.dreturn, 1) := by decide +kernel
theorem dX7_blockedShare_0 : decode cX7_blockedShare 0 = .ok (.aload_n 0, 1) := by decide +kernel
theorem dX7_blockedShare_1 : decode cX7_blockedShare 1 = .ok (.getfield 21, 3) := by decide +kernel
theorem dX7_blockedShare_4 : decode cX7_blockedShare 4 = .ok (.getfield 74, 3) := by decide +kernel
theorem dX7_blockedShare_7 : decode cX7_blockedShare 7 = .ok (.getfield 83, 3) := by decide +kernel
theorem dX7_blockedShare_10 : decode cX7_blockedShare 10 = .ok (.ifCond .ne 13, 3) := by decide +kernel
theorem dX7_blockedShare_13 : decode cX7_blockedShare 13 = .ok (.new 255, 3) := by decide +kernel
theorem dX7_blockedShare_16 : decode cX7_blockedShare 16 = .ok (.dup, 1) := by decide +kernel
theorem dX7_blockedShare_17 : decode cX7_blockedShare 17 = .ok (.ldc 122, 2) := by decide +kernel
theorem dX7_blockedShare_19 : decode cX7_blockedShare 19 = .ok (.invokespecial 259, 3) := by decide +kernel
theorem dX7_blockedShare_22 : decode cX7_blockedShare 22 = .ok (.athrow, 1) := by decide +kernel
theorem dX7_blockedShare_23 : decode cX7_blockedShare 23 = .ok (.aload_n 0, 1) := by decide +kernel
theorem dX7_blockedShare_24 : decode cX7_blockedShare 24 = .ok (.getfield 21, 3) := by decide +kernel
theorem dX7_blockedShare_27 : decode cX7_blockedShare 27 = .ok (.getfield 74, 3) := by decide +kernel
theorem dX7_blockedShare_30 : decode cX7_blockedShare 30 = .ok (.invokevirtual 263, 3) := by decide +kernel
theorem dX7_blockedShare_33 : decode cX7_blockedShare 33 = .ok (.i2f, 1) := by decide +kernel
theorem dX7_blockedShare_34 : decode cX7_blockedShare 34 = .ok (.aload_n 0, 1) := by decide +kernel
theorem dX7_blockedShare_35 : decode cX7_blockedShare 35 = .ok (.getfield 21, 3) := by decide +kernel
theorem dX7_blockedShare_38 : decode cX7_blockedShare 38 = .ok (.getfield 74, 3) := by decide +kernel
theorem dX7_blockedShare_41 : decode cX7_blockedShare 41 = .ok (.getfield 83, 3) := by decide +kernel
theorem dX7_blockedShare_44 : decode cX7_blockedShare 44 = .ok (.i2f, 1) := by decide +kernel
theorem dX7_blockedShare_45 : decode cX7_blockedShare 45 = .ok (.fdiv, 1) := by decide +kernel
theorem dX7_blockedShare_46 : decode cX7_blockedShare 46 = .ok (.freturn, 1) := by decide +kernel
theorem dX7_isConsistent_0 : decode cX7_isConsistent 0 = .ok (.aload_n 0, 1) := by decide +kernel
theorem dX7_isConsistent_1 : decode cX7_isConsistent 1 = .ok (.invokevirtual 266, 3) := by decide +kernel
theorem dX7_isConsistent_4 : decode cX7_isConsistent 4 = .ok (.ifCond .eq 50, 3) := by decide +kernel
theorem dX7_isConsistent_7 : decode cX7_isConsistent 7 = .ok (.aload_n 0, 1) := by decide +kernel
theorem dX7_isConsistent_8 : decode cX7_isConsistent 8 = .ok (.getfield 21, 3) := by decide +kernel
theorem dX7_isConsistent_11 : decode cX7_isConsistent 11 = .ok (.invokevirtual 269, 3) := by decide +kernel
theorem dX7_isConsistent_14 : decode cX7_isConsistent 14 = .ok (.ifCond .eq 40, 3) := by decide +kernel
theorem dX7_isConsistent_17 : decode cX7_isConsistent 17 = .ok (.aload_n 0, 1) := by decide +kernel
theorem dX7_isConsistent_18 : decode cX7_isConsistent 18 = .ok (.getfield 21, 3) := by decide +kernel
theorem dX7_isConsistent_21 : decode cX7_isConsistent 21 = .ok (.getfield 243, 3) := by decide +kernel
theorem dX7_isConsistent_24 : decode cX7_isConsistent 24 = .ok (.aload_n 0, 1) := by decide +kernel
theorem dX7_isConsistent_25 : decode cX7_isConsistent 25 = .ok (.getfield 21, 3) := by decide +kernel
theorem dX7_isConsistent_28 : decode cX7_isConsistent 28 = .ok (.getfield 134, 3) := by decide +kernel
theorem dX7_isConsistent_31 : decode cX7_isConsistent 31 = .ok (.aload_n 0, 1) := by decide +kernel
theorem dX7_isConsistent_32 : decode cX7_isConsistent 32 = .ok (.getfield 21, 3) := by decide +kernel
theorem dX7_isConsistent_35 : decode cX7_isConsistent 35 = .ok (.getfield 246, 3) := by decide +kernel
theorem dX7_isConsistent_38 : decode cX7_isConsistent 38 = .ok (.iadd, 1) := by decide +kernel
theorem dX7_isConsistent_39 : decode cX7_isConsistent 39 = .ok (.aload_n 0, 1) := by decide +kernel
theorem dX7_isConsistent_40 : decode cX7_isConsistent 40 = .ok (.getfield 21, 3) := by decide +kernel
theorem dX7_isConsistent_43 : decode cX7_isConsistent 43 = .ok (.getfield 249, 3) := by decide +kernel
theorem dX7_isConsistent_46 : decode cX7_isConsistent 46 = .ok (.iadd, 1) := by decide +kernel
theorem dX7_isConsistent_47 : decode cX7_isConsistent 47 = .ok (.if_icmp .ne 7, 3) := by decide +kernel
theorem dX7_isConsistent_50 : decode cX7_isConsistent 50 = .ok (.iconst 1, 1) := by decide +kernel
theorem dX7_isConsistent_51 : decode cX7_isConsistent 51 = .ok (.goto 4, 3) := by decide +kernel
theorem dX7_isConsistent_54 : decode cX7_isConsistent 54 = .ok (.iconst 0, 1) := by decide +kernel
theorem dX7_isConsistent_55 : decode cX7_isConsistent 55 = .ok (.ireturn, 1) := by decide +kernel
theorem dX7_formatParcel_0 : decode cX7_formatParcel 0 = .ok (.aload_n 0, 1) := by decide +kernel
theorem dX7_formatParcel_1 : decode cX7_formatParcel 1 = .ok (.iload_n 1, 1) := by decide +kernel
theorem dX7_formatParcel_2 : decode cX7_formatParcel 2 = .ok (.invokevirtual 144, 3) := by decide +kernel
theorem dX7_formatParcel_5 : decode cX7_formatParcel 5 = .ok (.astore_n 2, 1) := by decide +kernel
theorem dX7_formatParcel_6 : decode cX7_formatParcel 6 = .ok (.aload_n 0, 1) := by decide +kernel
theorem dX7_formatParcel_7 : decode cX7_formatParcel 7 = .ok (.getfield 56, 3) := by decide +kernel
theorem dX7_formatParcel_10 : decode cX7_formatParcel 10 = .ok (.iconst 0, 1) := by decide +kernel
theorem dX7_formatParcel_11 : decode cX7_formatParcel 11 = .ok (.invokevirtual 272, 3) := by decide +kernel
theorem dX7_formatParcel_14 : decode cX7_formatParcel 14 = .ok (.aload_n 2, 1) := by decide +kernel
theorem dX7_formatParcel_15 : decode cX7_formatParcel 15 = .ok (.aload_n 0, 1) := by decide +kernel
theorem dX7_formatParcel_16 : decode cX7_formatParcel 16 = .ok (.getfield 56, 3) := by decide +kernel
theorem dX7_formatParcel_19 : decode cX7_formatParcel 19 = .ok (.invokevirtual 275, 3) := by decide +kernel
theorem dX7_formatParcel_22 : decode cX7_formatParcel 22 = .ok (.aload_n 0, 1) := by decide +kernel
theorem dX7_formatParcel_23 : decode cX7_formatParcel 23 = .ok (.getfield 56, 3) := by decide +kernel
theorem dX7_formatParcel_26 : decode cX7_formatParcel 26 = .ok (.invokevirtual 279, 3) := by decide +kernel
theorem dX7_formatParcel_29 : decode cX7_formatParcel 29 = .ok (.ireturn, 1) := by decide +kernel
theorem dX7_formatLink_0 : decode cX7_formatLink 0 = .ok (.aload_n 0, 1) := by decide +kernel
theorem dX7_formatLink_1 : decode cX7_formatLink 1 = .ok (.iload_n 1, 1) := by decide +kernel
theorem dX7_formatLink_2 : decode cX7_formatLink 2 = .ok (.invokevirtual 86, 3) := by decide +kernel
theorem dX7_formatLink_5 : decode cX7_formatLink 5 = .ok (.astore_n 2, 1) := by decide +kernel
theorem dX7_formatLink_6 : decode cX7_formatLink 6 = .ok (.aload_n 0, 1) := by decide +kernel
theorem dX7_formatLink_7 : decode cX7_formatLink 7 = .ok (.getfield 56, 3) := by decide +kernel
theorem dX7_formatLink_10 : decode cX7_formatLink 10 = .ok (.iconst 0, 1) := by decide +kernel
theorem dX7_formatLink_11 : decode cX7_formatLink 11 = .ok (.invokevirtual 272, 3) := by decide +kernel
theorem dX7_formatLink_14 : decode cX7_formatLink 14 = .ok (.aload_n 0, 1) := by decide +kernel
theorem dX7_formatLink_15 : decode cX7_formatLink 15 = .ok (.getfield 56, 3) := by decide +kernel
theorem dX7_formatLink_18 : decode cX7_formatLink 18 = .ok (.iload_n 1, 1) := by decide +kernel
theorem dX7_formatLink_19 : decode cX7_formatLink 19 = .ok (.invokevirtual 282, 3) := by decide +kernel
theorem dX7_formatLink_22 : decode cX7_formatLink 22 = .ok (.pop, 1) := by decide +kernel
theorem dX7_formatLink_23 : decode cX7_formatLink 23 = .ok (.aload_n 2, 1) := by decide +kernel
theorem dX7_formatLink_24 : decode cX7_formatLink 24 = .ok (.aload_n 0, 1) := by decide +kernel
theorem dX7_formatLink_25 : decode cX7_formatLink 25 = .ok (.getfield 56, 3) := by decide +kernel
theorem dX7_formatLink_28 : decode cX7_formatLink 28 = .ok (.aload_n 0, 1) := by decide +kernel
theorem dX7_formatLink_29 : decode cX7_formatLink 29 = .ok (.getfield 21, 3) := by decide +kernel
theorem dX7_formatLink_32 : decode cX7_formatLink 32 = .ok (.iload_n 1, 1) := by decide +kernel
theorem dX7_formatLink_33 : decode cX7_formatLink 33 = .ok (.invokevirtual 116, 3) := by decide +kernel
theorem dX7_formatLink_36 : decode cX7_formatLink 36 = .ok (.invokevirtual 286, 3) := by decide +kernel
theorem dX7_formatLink_39 : decode cX7_formatLink 39 = .ok (.aload_n 0, 1) := by decide +kernel
theorem dX7_formatLink_40 : decode cX7_formatLink 40 = .ok (.getfield 56, 3) := by decide +kernel
theorem dX7_formatLink_43 : decode cX7_formatLink 43 = .ok (.invokevirtual 279, 3) := by decide +kernel
theorem dX7_formatLink_46 : decode cX7_formatLink 46 = .ok (.ireturn, 1) := by decide +kernel
theorem dX7_lineChar_0 : decode cX7_lineChar 0 = .ok (.iload_n 1, 1) := by decide +kernel
theorem dX7_lineChar_1 : decode cX7_lineChar 1 = .ok (.aload_n 0, 1) := by decide +kernel
theorem dX7_lineChar_2 : decode cX7_lineChar 2 = .ok (.getfield 56, 3) := by decide +kernel
theorem dX7_lineChar_5 : decode cX7_lineChar 5 = .ok (.invokevirtual 279, 3) := by decide +kernel
theorem dX7_lineChar_8 : decode cX7_lineChar 8 = .ok (.invokestatic 112, 3) := by decide +kernel
theorem dX7_lineChar_11 : decode cX7_lineChar 11 = .ok (.aload_n 0, 1) := by decide +kernel
theorem dX7_lineChar_12 : decode cX7_lineChar 12 = .ok (.getfield 56, 3) := by decide +kernel
theorem dX7_lineChar_15 : decode cX7_lineChar 15 = .ok (.iload_n 1, 1) := by decide +kernel
theorem dX7_lineChar_16 : decode cX7_lineChar 16 = .ok (.invokevirtual 289, 3) := by decide +kernel
theorem dX7_lineChar_19 : decode cX7_lineChar 19 = .ok (.ireturn, 1) := by decide +kernel
theorem dX7_append_0 : decode cX7_append 0 = .ok (.iload_n 1, 1) := by decide +kernel
theorem dX7_append_1 : decode cX7_append 1 = .ok (.bipush 32, 2) := by decide +kernel
theorem dX7_append_3 : decode cX7_append 3 = .ok (.if_icmp .lt 9, 3) := by decide +kernel
theorem dX7_append_6 : decode cX7_append 6 = .ok (.iload_n 1, 1) := by decide +kernel
theorem dX7_append_7 : decode cX7_append 7 = .ok (.bipush 126, 2) := by decide +kernel
theorem dX7_append_9 : decode cX7_append 9 = .ok (.if_icmp .le 14, 3) := by decide +kernel
theorem dX7_append_12 : decode cX7_append 12 = .ok (.new 293, 3) := by decide +kernel
theorem dX7_append_15 : decode cX7_append 15 = .ok (.dup, 1) := by decide +kernel
theorem dX7_append_16 : decode cX7_append 16 = .ok (.ldc_w 295, 3) := by decide +kernel
theorem dX7_append_19 : decode cX7_append 19 = .ok (.invokespecial 297, 3) := by decide +kernel
theorem dX7_append_22 : decode cX7_append 22 = .ok (.athrow, 1) := by decide +kernel
theorem dX7_append_23 : decode cX7_append 23 = .ok (.aload_n 0, 1) := by decide +kernel
theorem dX7_append_24 : decode cX7_append 24 = .ok (.getfield 45, 3) := by decide +kernel
theorem dX7_append_27 : decode cX7_append 27 = .ok (.getfield 298, 3) := by decide +kernel
theorem dX7_append_30 : decode cX7_append 30 = .ok (.bipush 60, 2) := by decide +kernel
theorem dX7_append_32 : decode cX7_append 32 = .ok (.if_icmp .lt 14, 3) := by decide +kernel
theorem dX7_append_35 : decode cX7_append 35 = .ok (.new 300, 3) := by decide +kernel
theorem dX7_append_38 : decode cX7_append 38 = .ok (.dup, 1) := by decide +kernel
theorem dX7_append_39 : decode cX7_append 39 = .ok (.ldc_w 302, 3) := by decide +kernel
theorem dX7_append_42 : decode cX7_append 42 = .ok (.invokespecial 304, 3) := by decide +kernel
theorem dX7_append_45 : decode cX7_append 45 = .ok (.athrow, 1) := by decide +kernel
theorem dX7_append_46 : decode cX7_append 46 = .ok (.aload_n 0, 1) := by decide +kernel
theorem dX7_append_47 : decode cX7_append 47 = .ok (.getfield 45, 3) := by decide +kernel
theorem dX7_append_50 : decode cX7_append 50 = .ok (.iload_n 1, 1) := by decide +kernel
theorem dX7_append_51 : decode cX7_append 51 = .ok (.invokevirtual 305, 3) := by decide +kernel
theorem dX7_append_54 : decode cX7_append 54 = .ok (.ireturn, 1) := by decide +kernel
theorem dX7_run_0 : decode cX7_run 0 = .ok (.aload_n 0, 1) := by decide +kernel
theorem dX7_run_1 : decode cX7_run 1 = .ok (.getfield 45, 3) := by decide +kernel
theorem dX7_run_4 : decode cX7_run 4 = .ok (.invokevirtual 309, 3) := by decide +kernel
theorem dX7_run_7 : decode cX7_run 7 = .ok (.istore_n 1, 1) := by decide +kernel
theorem dX7_run_8 : decode cX7_run 8 = .ok (.aload_n 0, 1) := by decide +kernel
theorem dX7_run_9 : decode cX7_run 9 = .ok (.getfield 45, 3) := by decide +kernel
theorem dX7_run_12 : decode cX7_run 12 = .ok (.iconst 0, 1) := by decide +kernel
theorem dX7_run_13 : decode cX7_run 13 = .ok (.putfield 298, 3) := by decide +kernel
theorem dX7_run_16 : decode cX7_run 16 = .ok (.iload_n 1, 1) := by decide +kernel
theorem dX7_run_17 : decode cX7_run 17 = .ok (.ifCond .ne 25, 3) := by decide +kernel
theorem dX7_run_20 : decode cX7_run 20 = .ok (.aload_n 0, 1) := by decide +kernel
theorem dX7_run_21 : decode cX7_run 21 = .ok (.aload_n 0, 1) := by decide +kernel
theorem dX7_run_22 : decode cX7_run 22 = .ok (.getfield 45, 3) := by decide +kernel
theorem dX7_run_25 : decode cX7_run 25 = .ok (.getfield 312, 3) := by decide +kernel
theorem dX7_run_28 : decode cX7_run 28 = .ok (.putfield 60, 3) := by decide +kernel
theorem dX7_run_31 : decode cX7_run 31 = .ok (.new 293, 3) := by decide +kernel
theorem dX7_run_34 : decode cX7_run 34 = .ok (.dup, 1) := by decide +kernel
theorem dX7_run_35 : decode cX7_run 35 = .ok (.ldc_w 315, 3) := by decide +kernel
theorem dX7_run_38 : decode cX7_run 38 = .ok (.invokespecial 297, 3) := by decide +kernel
theorem dX7_run_41 : decode cX7_run 41 = .ok (.athrow, 1) := by decide +kernel
theorem dX7_run_42 : decode cX7_run 42 = .ok (.aload_n 0, 1) := by decide +kernel
theorem dX7_run_43 : decode cX7_run 43 = .ok (.getfield 25, 3) := by decide +kernel
theorem dX7_run_46 : decode cX7_run 46 = .ok (.aload_n 0, 1) := by decide +kernel
theorem dX7_run_47 : decode cX7_run 47 = .ok (.getfield 21, 3) := by decide +kernel
theorem dX7_run_50 : decode cX7_run 50 = .ok (.invokevirtual 233, 3) := by decide +kernel
theorem dX7_run_53 : decode cX7_run 53 = .ok (.aload_n 0, 1) := by decide +kernel
theorem dX7_run_54 : decode cX7_run 54 = .ok (.getfield 45, 3) := by decide +kernel
theorem dX7_run_57 : decode cX7_run 57 = .ok (.aload_n 0, 1) := by decide +kernel
theorem dX7_run_58 : decode cX7_run 58 = .ok (.getfield 25, 3) := by decide +kernel
theorem dX7_run_61 : decode cX7_run 61 = .ok (.invokevirtual 317, 3) := by decide +kernel
theorem dX7_run_64 : decode cX7_run 64 = .ok (.istore_n 2, 1) := by decide +kernel
theorem dX7_run_65 : decode cX7_run 65 = .ok (.iload_n 2, 1) := by decide +kernel
theorem dX7_run_66 : decode cX7_run 66 = .ok (.aload_n 0, 1) := by decide +kernel
theorem dX7_run_67 : decode cX7_run 67 = .ok (.getfield 45, 3) := by decide +kernel
theorem dX7_run_70 : decode cX7_run 70 = .ok (.getfield 321, 3) := by decide +kernel
theorem dX7_run_73 : decode cX7_run 73 = .ok (.if_icmp .ge 19, 3) := by decide +kernel
theorem dX7_run_76 : decode cX7_run 76 = .ok (.aload_n 0, 1) := by decide +kernel
theorem dX7_run_77 : decode cX7_run 77 = .ok (.iload_n 2, 1) := by decide +kernel
theorem dX7_run_78 : decode cX7_run 78 = .ok (.putfield 64, 3) := by decide +kernel
theorem dX7_run_81 : decode cX7_run 81 = .ok (.new 300, 3) := by decide +kernel
theorem dX7_run_84 : decode cX7_run 84 = .ok (.dup, 1) := by decide +kernel
theorem dX7_run_85 : decode cX7_run 85 = .ok (.ldc_w 322, 3) := by decide +kernel
theorem dX7_run_88 : decode cX7_run 88 = .ok (.invokespecial 304, 3) := by decide +kernel
theorem dX7_run_91 : decode cX7_run 91 = .ok (.athrow, 1) := by decide +kernel
theorem dX7_run_92 : decode cX7_run 92 = .ok (.aload_n 0, 1) := by decide +kernel
theorem dX7_run_93 : decode cX7_run 93 = .ok (.getfield 38, 3) := by decide +kernel
theorem dX7_run_96 : decode cX7_run 96 = .ok (.aload_n 0, 1) := by decide +kernel
theorem dX7_run_97 : decode cX7_run 97 = .ok (.getfield 21, 3) := by decide +kernel
theorem dX7_run_100 : decode cX7_run 100 = .ok (.invokevirtual 324, 3) := by decide +kernel
theorem dX7_run_103 : decode cX7_run 103 = .ok (.aload_n 0, 1) := by decide +kernel
theorem dX7_run_104 : decode cX7_run 104 = .ok (.getfield 21, 3) := by decide +kernel
theorem dX7_run_107 : decode cX7_run 107 = .ok (.aload_n 0, 1) := by decide +kernel
theorem dX7_run_108 : decode cX7_run 108 = .ok (.getfield 25, 3) := by decide +kernel
theorem dX7_run_111 : decode cX7_run 111 = .ok (.invokevirtual 233, 3) := by decide +kernel
theorem dX7_run_114 : decode cX7_run 114 = .ok (.iload_n 2, 1) := by decide +kernel
theorem dX7_run_115 : decode cX7_run 115 = .ok (.ireturn, 1) := by decide +kernel
theorem dX7_errorPosition_0 : decode cX7_errorPosition 0 = .ok (.aload_n 0, 1) := by decide +kernel
theorem dX7_errorPosition_1 : decode cX7_errorPosition 1 = .ok (.getfield 60, 3) := by decide +kernel
theorem dX7_errorPosition_4 : decode cX7_errorPosition 4 = .ok (.iconst (-1), 1) := by decide +kernel
theorem dX7_errorPosition_5 : decode cX7_errorPosition 5 = .ok (.if_icmp .ne 14, 3) := by decide +kernel
theorem dX7_errorPosition_8 : decode cX7_errorPosition 8 = .ok (.new 120, 3) := by decide +kernel
theorem dX7_errorPosition_11 : decode cX7_errorPosition 11 = .ok (.dup, 1) := by decide +kernel
theorem dX7_errorPosition_12 : decode cX7_errorPosition 12 = .ok (.ldc_w 327, 3) := by decide +kernel
theorem dX7_errorPosition_15 : decode cX7_errorPosition 15 = .ok (.invokespecial 124, 3) := by decide +kernel
theorem dX7_errorPosition_18 : decode cX7_errorPosition 18 = .ok (.athrow, 1) := by decide +kernel
theorem dX7_errorPosition_19 : decode cX7_errorPosition 19 = .ok (.aload_n 0, 1) := by decide +kernel
theorem dX7_errorPosition_20 : decode cX7_errorPosition 20 = .ok (.getfield 60, 3) := by decide +kernel
theorem dX7_errorPosition_23 : decode cX7_errorPosition 23 = .ok (.ireturn, 1) := by decide +kernel
theorem dX7_failedCommand_0 : decode cX7_failedCommand 0 = .ok (.aload_n 0, 1) := by decide +kernel
theorem dX7_failedCommand_1 : decode cX7_failedCommand 1 = .ok (.getfield 64, 3) := by decide +kernel
theorem dX7_failedCommand_4 : decode cX7_failedCommand 4 = .ok (.iconst (-1), 1) := by decide +kernel
theorem dX7_failedCommand_5 : decode cX7_failedCommand 5 = .ok (.if_icmp .ne 14, 3) := by decide +kernel
theorem dX7_failedCommand_8 : decode cX7_failedCommand 8 = .ok (.new 120, 3) := by decide +kernel
theorem dX7_failedCommand_11 : decode cX7_failedCommand 11 = .ok (.dup, 1) := by decide +kernel
theorem dX7_failedCommand_12 : decode cX7_failedCommand 12 = .ok (.ldc_w 329, 3) := by decide +kernel
theorem dX7_failedCommand_15 : decode cX7_failedCommand 15 = .ok (.invokespecial 124, 3) := by decide +kernel
theorem dX7_failedCommand_18 : decode cX7_failedCommand 18 = .ok (.athrow, 1) := by decide +kernel
theorem dX7_failedCommand_19 : decode cX7_failedCommand 19 = .ok (.aload_n 0, 1) := by decide +kernel
theorem dX7_failedCommand_20 : decode cX7_failedCommand 20 = .ok (.getfield 64, 3) := by decide +kernel
theorem dX7_failedCommand_23 : decode cX7_failedCommand 23 = .ok (.ireturn, 1) := by decide +kernel
theorem dX7_undoableCount_0 : decode cX7_undoableCount 0 = .ok (.aload_n 0, 1) := by decide +kernel
theorem dX7_undoableCount_1 : decode cX7_undoableCount 1 = .ok (.getfield 38, 3) := by decide +kernel
theorem dX7_undoableCount_4 : decode cX7_undoableCount 4 = .ok (.getfield 331, 3) := by decide +kernel
theorem dX7_undoableCount_7 : decode cX7_undoableCount 7 = .ok (.ireturn, 1) := by decide +kernel
theorem dX7_undo_0 : decode cX7_undo 0 = .ok (.aload_n 0, 1) := by decide +kernel
theorem dX7_undo_1 : decode cX7_undo 1 = .ok (.getfield 38, 3) := by decide +kernel
theorem dX7_undo_4 : decode cX7_undo 4 = .ok (.getfield 331, 3) := by decide +kernel
theorem dX7_undo_7 : decode cX7_undo 7 = .ok (.ifCond .ne 14, 3) := by decide +kernel
theorem dX7_undo_10 : decode cX7_undo 10 = .ok (.new 300, 3) := by decide +kernel
theorem dX7_undo_13 : decode cX7_undo 13 = .ok (.dup, 1) := by decide +kernel
theorem dX7_undo_14 : decode cX7_undo 14 = .ok (.ldc_w 332, 3) := by decide +kernel
theorem dX7_undo_17 : decode cX7_undo 17 = .ok (.invokespecial 304, 3) := by decide +kernel
theorem dX7_undo_20 : decode cX7_undo 20 = .ok (.athrow, 1) := by decide +kernel
theorem dX7_undo_21 : decode cX7_undo 21 = .ok (.aload_n 0, 1) := by decide +kernel
theorem dX7_undo_22 : decode cX7_undo 22 = .ok (.getfield 38, 3) := by decide +kernel
theorem dX7_undo_25 : decode cX7_undo 25 = .ok (.aload_n 0, 1) := by decide +kernel
theorem dX7_undo_26 : decode cX7_undo 26 = .ok (.getfield 21, 3) := by decide +kernel
theorem dX7_undo_29 : decode cX7_undo 29 = .ok (.invokevirtual 334, 3) := by decide +kernel
theorem dX7_undo_32 : decode cX7_undo 32 = .ok (.aload_n 0, 1) := by decide +kernel
theorem dX7_undo_33 : decode cX7_undo 33 = .ok (.getfield 38, 3) := by decide +kernel
theorem dX7_undo_36 : decode cX7_undo 36 = .ok (.getfield 331, 3) := by decide +kernel
theorem dX7_undo_39 : decode cX7_undo 39 = .ok (.ireturn, 1) := by decide +kernel
theorem dX7_save_0 : decode cX7_save 0 = .ok (.aload_n 0, 1) := by decide +kernel
theorem dX7_save_1 : decode cX7_save 1 = .ok (.getfield 28, 3) := by decide +kernel
theorem dX7_save_4 : decode cX7_save 4 = .ok (.aload_n 0, 1) := by decide +kernel
theorem dX7_save_5 : decode cX7_save 5 = .ok (.getfield 21, 3) := by decide +kernel
theorem dX7_save_8 : decode cX7_save 8 = .ok (.invokevirtual 233, 3) := by decide +kernel
theorem dX7_save_11 : decode cX7_save 11 = .ok (.aload_n 0, 1) := by decide +kernel
theorem dX7_save_12 : decode cX7_save 12 = .ok (.iconst 1, 1) := by decide +kernel
theorem dX7_save_13 : decode cX7_save 13 = .ok (.putfield 31, 3) := by decide +kernel
theorem dX7_save_16 : decode cX7_save 16 = .ok (.aload_n 0, 1) := by decide +kernel
theorem dX7_save_17 : decode cX7_save 17 = .ok (.getfield 21, 3) := by decide +kernel
theorem dX7_save_20 : decode cX7_save 20 = .ok (.getfield 74, 3) := by decide +kernel
theorem dX7_save_23 : decode cX7_save 23 = .ok (.getfield 78, 3) := by decide +kernel
theorem dX7_save_26 : decode cX7_save 26 = .ok (.ireturn, 1) := by decide +kernel
theorem dX7_restore_0 : decode cX7_restore 0 = .ok (.aload_n 0, 1) := by decide +kernel
theorem dX7_restore_1 : decode cX7_restore 1 = .ok (.getfield 31, 3) := by decide +kernel
theorem dX7_restore_4 : decode cX7_restore 4 = .ok (.ifCond .ne 14, 3) := by decide +kernel
theorem dX7_restore_7 : decode cX7_restore 7 = .ok (.new 300, 3) := by decide +kernel
theorem dX7_restore_10 : decode cX7_restore 10 = .ok (.dup, 1) := by decide +kernel
theorem dX7_restore_11 : decode cX7_restore 11 = .ok (.ldc_w 337, 3) := by decide +kernel
theorem dX7_restore_14 : decode cX7_restore 14 = .ok (.invokespecial 304, 3) := by decide +kernel
theorem dX7_restore_17 : decode cX7_restore 17 = .ok (.athrow, 1) := by decide +kernel
theorem dX7_restore_18 : decode cX7_restore 18 = .ok (.aload_n 0, 1) := by decide +kernel
theorem dX7_restore_19 : decode cX7_restore 19 = .ok (.getfield 21, 3) := by decide +kernel
theorem dX7_restore_22 : decode cX7_restore 22 = .ok (.aload_n 0, 1) := by decide +kernel
theorem dX7_restore_23 : decode cX7_restore 23 = .ok (.getfield 28, 3) := by decide +kernel
theorem dX7_restore_26 : decode cX7_restore 26 = .ok (.invokevirtual 233, 3) := by decide +kernel
theorem dX7_restore_29 : decode cX7_restore 29 = .ok (.aload_n 0, 1) := by decide +kernel
theorem dX7_restore_30 : decode cX7_restore 30 = .ok (.getfield 38, 3) := by decide +kernel
theorem dX7_restore_33 : decode cX7_restore 33 = .ok (.invokevirtual 339, 3) := by decide +kernel
theorem dX7_restore_36 : decode cX7_restore 36 = .ok (.aload_n 0, 1) := by decide +kernel
theorem dX7_restore_37 : decode cX7_restore 37 = .ok (.getfield 21, 3) := by decide +kernel
theorem dX7_restore_40 : decode cX7_restore 40 = .ok (.getfield 74, 3) := by decide +kernel
theorem dX7_restore_43 : decode cX7_restore 43 = .ok (.getfield 78, 3) := by decide +kernel
theorem dX7_restore_46 : decode cX7_restore 46 = .ok (.ireturn, 1) := by decide +kernel
theorem dX7_change_0 : decode cX7_change 0 = .ok (.aload_n 0, 1) := by decide +kernel
theorem dX7_change_1 : decode cX7_change 1 = .ok (.getfield 21, 3) := by decide +kernel
theorem dX7_change_4 : decode cX7_change 4 = .ok (.iload_n 1, 1) := by decide +kernel
theorem dX7_change_5 : decode cX7_change 5 = .ok (.iload_n 2, 1) := by decide +kernel
theorem dX7_change_6 : decode cX7_change 6 = .ok (.iload_n 3, 1) := by decide +kernel
theorem dX7_change_7 : decode cX7_change 7 = .ok (.iload 4, 2) := by decide +kernel
theorem dX7_change_9 : decode cX7_change 9 = .ok (.iload 5, 2) := by decide +kernel
theorem dX7_change_11 : decode cX7_change 11 = .ok (.invokevirtual 209, 3) := by decide +kernel
theorem dX7_change_14 : decode cX7_change 14 = .ok (.invokestatic 212, 3) := by decide +kernel
theorem dX7_change_17 : decode cX7_change 17 = .ok (.aload_n 0, 1) := by decide +kernel
theorem dX7_change_18 : decode cX7_change 18 = .ok (.getfield 38, 3) := by decide +kernel
theorem dX7_change_21 : decode cX7_change 21 = .ok (.aload_n 0, 1) := by decide +kernel
theorem dX7_change_22 : decode cX7_change 22 = .ok (.getfield 21, 3) := by decide +kernel
theorem dX7_change_25 : decode cX7_change 25 = .ok (.invokevirtual 324, 3) := by decide +kernel
theorem dX7_change_28 : decode cX7_change 28 = .ok (.aload_n 0, 1) := by decide +kernel
theorem dX7_change_29 : decode cX7_change 29 = .ok (.getfield 21, 3) := by decide +kernel
theorem dX7_change_32 : decode cX7_change 32 = .ok (.iload_n 1, 1) := by decide +kernel
theorem dX7_change_33 : decode cX7_change 33 = .ok (.iload_n 2, 1) := by decide +kernel
theorem dX7_change_34 : decode cX7_change 34 = .ok (.iload_n 3, 1) := by decide +kernel
theorem dX7_change_35 : decode cX7_change 35 = .ok (.iload 4, 2) := by decide +kernel
theorem dX7_change_37 : decode cX7_change 37 = .ok (.iload 5, 2) := by decide +kernel
theorem dX7_change_39 : decode cX7_change 39 = .ok (.invokevirtual 342, 3) := by decide +kernel
theorem dX7_change_42 : decode cX7_change 42 = .ok (.ireturn, 1) := by decide +kernel
theorem dX7_throwFor_0 : decode cX7_throwFor 0 = .ok (.iload_n 0, 1) := by decide +kernel
theorem dX7_throwFor_1 : decode cX7_throwFor 1 = .ok (.tableswitch 75 1 4 #[31, 42, 53, 64], 31) := by decide +kernel
theorem dX7_throwFor_32 : decode cX7_throwFor 32 = .ok (.new 345, 3) := by decide +kernel
theorem dX7_throwFor_35 : decode cX7_throwFor 35 = .ok (.dup, 1) := by decide +kernel
theorem dX7_throwFor_36 : decode cX7_throwFor 36 = .ok (.ldc_w 347, 3) := by decide +kernel
theorem dX7_throwFor_39 : decode cX7_throwFor 39 = .ok (.invokespecial 349, 3) := by decide +kernel
theorem dX7_throwFor_42 : decode cX7_throwFor 42 = .ok (.athrow, 1) := by decide +kernel
theorem dX7_throwFor_43 : decode cX7_throwFor 43 = .ok (.new 293, 3) := by decide +kernel
theorem dX7_throwFor_46 : decode cX7_throwFor 46 = .ok (.dup, 1) := by decide +kernel
theorem dX7_throwFor_47 : decode cX7_throwFor 47 = .ok (.ldc_w 350, 3) := by decide +kernel
theorem dX7_throwFor_50 : decode cX7_throwFor 50 = .ok (.invokespecial 297, 3) := by decide +kernel
theorem dX7_throwFor_53 : decode cX7_throwFor 53 = .ok (.athrow, 1) := by decide +kernel
theorem dX7_throwFor_54 : decode cX7_throwFor 54 = .ok (.new 300, 3) := by decide +kernel
theorem dX7_throwFor_57 : decode cX7_throwFor 57 = .ok (.dup, 1) := by decide +kernel
theorem dX7_throwFor_58 : decode cX7_throwFor 58 = .ok (.ldc_w 352, 3) := by decide +kernel
theorem dX7_throwFor_61 : decode cX7_throwFor 61 = .ok (.invokespecial 304, 3) := by decide +kernel
theorem dX7_throwFor_64 : decode cX7_throwFor 64 = .ok (.athrow, 1) := by decide +kernel
theorem dX7_throwFor_65 : decode cX7_throwFor 65 = .ok (.new 120, 3) := by decide +kernel
theorem dX7_throwFor_68 : decode cX7_throwFor 68 = .ok (.dup, 1) := by decide +kernel
theorem dX7_throwFor_69 : decode cX7_throwFor 69 = .ok (.ldc_w 354, 3) := by decide +kernel
theorem dX7_throwFor_72 : decode cX7_throwFor 72 = .ok (.invokespecial 124, 3) := by decide +kernel
theorem dX7_throwFor_75 : decode cX7_throwFor 75 = .ok (.athrow, 1) := by decide +kernel
theorem dX7_throwFor_76 : decode cX7_throwFor 76 = .ok (.return_, 1) := by decide +kernel
theorem dX7_requireIndex_0 : decode cX7_requireIndex 0 = .ok (.iload_n 0, 1) := by decide +kernel
theorem dX7_requireIndex_1 : decode cX7_requireIndex 1 = .ok (.ifCond .lt 8, 3) := by decide +kernel
theorem dX7_requireIndex_4 : decode cX7_requireIndex 4 = .ok (.iload_n 0, 1) := by decide +kernel
theorem dX7_requireIndex_5 : decode cX7_requireIndex 5 = .ok (.iload_n 1, 1) := by decide +kernel
theorem dX7_requireIndex_6 : decode cX7_requireIndex 6 = .ok (.if_icmp .lt 14, 3) := by decide +kernel
theorem dX7_requireIndex_9 : decode cX7_requireIndex 9 = .ok (.new 345, 3) := by decide +kernel
theorem dX7_requireIndex_12 : decode cX7_requireIndex 12 = .ok (.dup, 1) := by decide +kernel
theorem dX7_requireIndex_13 : decode cX7_requireIndex 13 = .ok (.ldc_w 356, 3) := by decide +kernel
theorem dX7_requireIndex_16 : decode cX7_requireIndex 16 = .ok (.invokespecial 349, 3) := by decide +kernel
theorem dX7_requireIndex_19 : decode cX7_requireIndex 19 = .ok (.athrow, 1) := by decide +kernel
theorem dX7_requireIndex_20 : decode cX7_requireIndex 20 = .ok (.return_, 1) := by decide +kernel
theorem dX7_requireBetween_0 : decode cX7_requireBetween 0 = .ok (.iload_n 0, 1) := by decide +kernel
theorem dX7_requireBetween_1 : decode cX7_requireBetween 1 = .ok (.iload_n 1, 1) := by decide +kernel
theorem dX7_requireBetween_2 : decode cX7_requireBetween 2 = .ok (.if_icmp .lt 8, 3) := by decide +kernel
theorem dX7_requireBetween_5 : decode cX7_requireBetween 5 = .ok (.iload_n 0, 1) := by decide +kernel
theorem dX7_requireBetween_6 : decode cX7_requireBetween 6 = .ok (.iload_n 2, 1) := by decide +kernel
theorem dX7_requireBetween_7 : decode cX7_requireBetween 7 = .ok (.if_icmp .le 14, 3) := by decide +kernel
theorem dX7_requireBetween_10 : decode cX7_requireBetween 10 = .ok (.new 293, 3) := by decide +kernel
theorem dX7_requireBetween_13 : decode cX7_requireBetween 13 = .ok (.dup, 1) := by decide +kernel
theorem dX7_requireBetween_14 : decode cX7_requireBetween 14 = .ok (.ldc_w 358, 3) := by decide +kernel
theorem dX7_requireBetween_17 : decode cX7_requireBetween 17 = .ok (.invokespecial 297, 3) := by decide +kernel
theorem dX7_requireBetween_20 : decode cX7_requireBetween 20 = .ok (.athrow, 1) := by decide +kernel
theorem dX7_requireBetween_21 : decode cX7_requireBetween 21 = .ok (.return_, 1) := by decide +kernel
theorem dX7_requireAskedHour_0 : decode cX7_requireAskedHour 0 = .ok (.iload_n 0, 1) := by decide +kernel
theorem dX7_requireAskedHour_1 : decode cX7_requireAskedHour 1 = .ok (.iconst 0, 1) := by decide +kernel
theorem dX7_requireAskedHour_2 : decode cX7_requireAskedHour 2 = .ok (.sipush 9999, 3) := by decide +kernel
theorem dX7_requireAskedHour_5 : decode cX7_requireAskedHour 5 = .ok (.invokestatic 226, 3) := by decide +kernel
theorem dX7_requireAskedHour_8 : decode cX7_requireAskedHour 8 = .ok (.return_, 1) := by decide +kernel
theorem dX7_existingHour_0 : decode cX7_existingHour 0 = .ok (.iload_n 0, 1) := by decide +kernel
theorem dX7_existingHour_1 : decode cX7_existingHour 1 = .ok (.ldc_w 360, 3) := by decide +kernel
theorem dX7_existingHour_4 : decode cX7_existingHour 4 = .ok (.if_icmp .ne 14, 3) := by decide +kernel
theorem dX7_existingHour_7 : decode cX7_existingHour 7 = .ok (.new 120, 3) := by decide +kernel
theorem dX7_existingHour_10 : decode cX7_existingHour 10 = .ok (.dup, 1) := by decide +kernel
theorem dX7_existingHour_11 : decode cX7_existingHour 11 = .ok (.ldc_w 361, 3) := by decide +kernel
theorem dX7_existingHour_14 : decode cX7_existingHour 14 = .ok (.invokespecial 124, 3) := by decide +kernel
theorem dX7_existingHour_17 : decode cX7_existingHour 17 = .ok (.athrow, 1) := by decide +kernel
theorem dX7_existingHour_18 : decode cX7_existingHour 18 = .ok (.iload_n 0, 1) := by decide +kernel
theorem dX7_existingHour_19 : decode cX7_existingHour 19 = .ok (.ireturn, 1) := by decide +kernel
theorem dX7_existingSteps_0 : decode cX7_existingSteps 0 = .ok (.iload_n 0, 1) := by decide +kernel
theorem dX7_existingSteps_1 : decode cX7_existingSteps 1 = .ok (.iconst (-1), 1) := by decide +kernel
theorem dX7_existingSteps_2 : decode cX7_existingSteps 2 = .ok (.if_icmp .ne 14, 3) := by decide +kernel
theorem dX7_existingSteps_5 : decode cX7_existingSteps 5 = .ok (.new 120, 3) := by decide +kernel
theorem dX7_existingSteps_8 : decode cX7_existingSteps 8 = .ok (.dup, 1) := by decide +kernel
theorem dX7_existingSteps_9 : decode cX7_existingSteps 9 = .ok (.ldc_w 361, 3) := by decide +kernel
theorem dX7_existingSteps_12 : decode cX7_existingSteps 12 = .ok (.invokespecial 124, 3) := by decide +kernel
theorem dX7_existingSteps_15 : decode cX7_existingSteps 15 = .ok (.athrow, 1) := by decide +kernel
theorem dX7_existingSteps_16 : decode cX7_existingSteps 16 = .ok (.iload_n 0, 1) := by decide +kernel
theorem dX7_existingSteps_17 : decode cX7_existingSteps 17 = .ok (.ireturn, 1) := by decide +kernel
theorem dX7_existingLink_0 : decode cX7_existingLink 0 = .ok (.iload_n 1, 1) := by decide +kernel
theorem dX7_existingLink_1 : decode cX7_existingLink 1 = .ok (.aload_n 0, 1) := by decide +kernel
theorem dX7_existingLink_2 : decode cX7_existingLink 2 = .ok (.getfield 21, 3) := by decide +kernel
theorem dX7_existingLink_5 : decode cX7_existingLink 5 = .ok (.getfield 74, 3) := by decide +kernel
theorem dX7_existingLink_8 : decode cX7_existingLink 8 = .ok (.getfield 83, 3) := by decide +kernel
theorem dX7_existingLink_11 : decode cX7_existingLink 11 = .ok (.invokestatic 112, 3) := by decide +kernel
theorem dX7_existingLink_14 : decode cX7_existingLink 14 = .ok (.aload_n 0, 1) := by decide +kernel
theorem dX7_existingLink_15 : decode cX7_existingLink 15 = .ok (.getfield 21, 3) := by decide +kernel
theorem dX7_existingLink_18 : decode cX7_existingLink 18 = .ok (.getfield 74, 3) := by decide +kernel
theorem dX7_existingLink_21 : decode cX7_existingLink 21 = .ok (.getfield 363, 3) := by decide +kernel
theorem dX7_existingLink_24 : decode cX7_existingLink 24 = .ok (.iload_n 1, 1) := by decide +kernel
theorem dX7_existingLink_25 : decode cX7_existingLink 25 = .ok (.aaload, 1) := by decide +kernel
theorem dX7_existingLink_26 : decode cX7_existingLink 26 = .ok (.areturn, 1) := by decide +kernel
theorem dX7_existingParcel_0 : decode cX7_existingParcel 0 = .ok (.aload_n 0, 1) := by decide +kernel
theorem dX7_existingParcel_1 : decode cX7_existingParcel 1 = .ok (.getfield 21, 3) := by decide +kernel
theorem dX7_existingParcel_4 : decode cX7_existingParcel 4 = .ok (.iload_n 1, 1) := by decide +kernel
theorem dX7_existingParcel_5 : decode cX7_existingParcel 5 = .ok (.invokevirtual 367, 3) := by decide +kernel
theorem dX7_existingParcel_8 : decode cX7_existingParcel 8 = .ok (.astore_n 2, 1) := by decide +kernel
theorem dX7_existingParcel_9 : decode cX7_existingParcel 9 = .ok (.aload_n 2, 1) := by decide +kernel
theorem dX7_existingParcel_10 : decode cX7_existingParcel 10 = .ok (.ifnonnull 14, 3) := by decide +kernel
theorem dX7_existingParcel_13 : decode cX7_existingParcel 13 = .ok (.new 120, 3) := by decide +kernel
theorem dX7_existingParcel_16 : decode cX7_existingParcel 16 = .ok (.dup, 1) := by decide +kernel
theorem dX7_existingParcel_17 : decode cX7_existingParcel 17 = .ok (.ldc_w 354, 3) := by decide +kernel
theorem dX7_existingParcel_20 : decode cX7_existingParcel 20 = .ok (.invokespecial 124, 3) := by decide +kernel
theorem dX7_existingParcel_23 : decode cX7_existingParcel 23 = .ok (.athrow, 1) := by decide +kernel
theorem dX7_existingParcel_24 : decode cX7_existingParcel 24 = .ok (.aload_n 2, 1) := by decide +kernel
theorem dX7_existingParcel_25 : decode cX7_existingParcel 25 = .ok (.areturn, 1) := by decide +kernel
theorem dX7_waitingParcel_0 : decode cX7_waitingParcel 0 = .ok (.aload_n 0, 1) := by decide +kernel
theorem dX7_waitingParcel_1 : decode cX7_waitingParcel 1 = .ok (.iload_n 1, 1) := by decide +kernel
theorem dX7_waitingParcel_2 : decode cX7_waitingParcel 2 = .ok (.invokevirtual 144, 3) := by decide +kernel
theorem dX7_waitingParcel_5 : decode cX7_waitingParcel 5 = .ok (.astore_n 2, 1) := by decide +kernel
theorem dX7_waitingParcel_6 : decode cX7_waitingParcel 6 = .ok (.aload_n 2, 1) := by decide +kernel
theorem dX7_waitingParcel_7 : decode cX7_waitingParcel 7 = .ok (.invokevirtual 148, 3) := by decide +kernel
theorem dX7_waitingParcel_10 : decode cX7_waitingParcel 10 = .ok (.ifCond .eq 14, 3) := by decide +kernel
theorem dX7_waitingParcel_13 : decode cX7_waitingParcel 13 = .ok (.new 120, 3) := by decide +kernel
theorem dX7_waitingParcel_16 : decode cX7_waitingParcel 16 = .ok (.dup, 1) := by decide +kernel
theorem dX7_waitingParcel_17 : decode cX7_waitingParcel 17 = .ok (.ldc_w 370, 3) := by decide +kernel
theorem dX7_waitingParcel_20 : decode cX7_waitingParcel 20 = .ok (.invokespecial 124, 3) := by decide +kernel
theorem dX7_waitingParcel_23 : decode cX7_waitingParcel 23 = .ok (.athrow, 1) := by decide +kernel
theorem dX7_waitingParcel_24 : decode cX7_waitingParcel 24 = .ok (.aload_n 2, 1) := by decide +kernel
theorem dX7_waitingParcel_25 : decode cX7_waitingParcel 25 = .ok (.areturn, 1) := by decide +kernel
theorem dX7_travellingParcel_0 : decode cX7_travellingParcel 0 = .ok (.aload_n 0, 1) := by decide +kernel
theorem dX7_travellingParcel_1 : decode cX7_travellingParcel 1 = .ok (.iload_n 1, 1) := by decide +kernel
theorem dX7_travellingParcel_2 : decode cX7_travellingParcel 2 = .ok (.invokevirtual 144, 3) := by decide +kernel
theorem dX7_travellingParcel_5 : decode cX7_travellingParcel 5 = .ok (.astore_n 2, 1) := by decide +kernel
theorem dX7_travellingParcel_6 : decode cX7_travellingParcel 6 = .ok (.aload_n 2, 1) := by decide +kernel
theorem dX7_travellingParcel_7 : decode cX7_travellingParcel 7 = .ok (.invokevirtual 148, 3) := by decide +kernel
theorem dX7_travellingParcel_10 : decode cX7_travellingParcel 10 = .ok (.ifCond .ne 14, 3) := by decide +kernel
theorem dX7_travellingParcel_13 : decode cX7_travellingParcel 13 = .ok (.new 120, 3) := by decide +kernel
theorem dX7_travellingParcel_16 : decode cX7_travellingParcel 16 = .ok (.dup, 1) := by decide +kernel
theorem dX7_travellingParcel_17 : decode cX7_travellingParcel 17 = .ok (.ldc_w 372, 3) := by decide +kernel
theorem dX7_travellingParcel_20 : decode cX7_travellingParcel 20 = .ok (.invokespecial 124, 3) := by decide +kernel
theorem dX7_travellingParcel_23 : decode cX7_travellingParcel 23 = .ok (.athrow, 1) := by decide +kernel
theorem dX7_travellingParcel_24 : decode cX7_travellingParcel 24 = .ok (.aload_n 2, 1) := by decide +kernel
theorem dX7_travellingParcel_25 : decode cX7_travellingParcel 25 = .ok (.areturn, 1) := by decide +kernel
theorem dX7_positionOfRank_0 : decode cX7_positionOfRank 0 = .ok (.iconst 0, 1) := by decide +kernel
theorem dX7_positionOfRank_1 : decode cX7_positionOfRank 1 = .ok (.istore_n 2, 1) := by decide +kernel
theorem dX7_positionOfRank_2 : decode cX7_positionOfRank 2 = .ok (.iload_n 2, 1) := by decide +kernel
theorem dX7_positionOfRank_3 : decode cX7_positionOfRank 3 = .ok (.aload_n 0, 1) := by decide +kernel
theorem dX7_positionOfRank_4 : decode cX7_positionOfRank 4 = .ok (.getfield 21, 3) := by decide +kernel
theorem dX7_positionOfRank_7 : decode cX7_positionOfRank 7 = .ok (.getfield 134, 3) := by decide +kernel
theorem dX7_positionOfRank_10 : decode cX7_positionOfRank 10 = .ok (.if_icmp .ge 20, 3) := by decide +kernel
theorem dX7_positionOfRank_13 : decode cX7_positionOfRank 13 = .ok (.aload_n 0, 1) := by decide +kernel
theorem dX7_positionOfRank_14 : decode cX7_positionOfRank 14 = .ok (.iload_n 2, 1) := by decide +kernel
theorem dX7_positionOfRank_15 : decode cX7_positionOfRank 15 = .ok (.invokevirtual 374, 3) := by decide +kernel
theorem dX7_positionOfRank_18 : decode cX7_positionOfRank 18 = .ok (.iload_n 1, 1) := by decide +kernel
theorem dX7_positionOfRank_19 : decode cX7_positionOfRank 19 = .ok (.if_icmp .ne 5, 3) := by decide +kernel
theorem dX7_positionOfRank_22 : decode cX7_positionOfRank 22 = .ok (.iload_n 2, 1) := by decide +kernel
theorem dX7_positionOfRank_23 : decode cX7_positionOfRank 23 = .ok (.ireturn, 1) := by decide +kernel
theorem dX7_positionOfRank_24 : decode cX7_positionOfRank 24 = .ok (.iinc 2 1, 3) := by decide +kernel
theorem dX7_positionOfRank_27 : decode cX7_positionOfRank 27 = .ok (.goto (-25), 3) := by decide +kernel
theorem dX7_positionOfRank_30 : decode cX7_positionOfRank 30 = .ok (.iconst 0, 1) := by decide +kernel
theorem dX7_positionOfRank_31 : decode cX7_positionOfRank 31 = .ok (.ireturn, 1) := by decide +kernel
theorem dX7_parcelsAhead_0 : decode cX7_parcelsAhead 0 = .ok (.iconst 0, 1) := by decide +kernel
theorem dX7_parcelsAhead_1 : decode cX7_parcelsAhead 1 = .ok (.istore_n 2, 1) := by decide +kernel
theorem dX7_parcelsAhead_2 : decode cX7_parcelsAhead 2 = .ok (.iconst 0, 1) := by decide +kernel
theorem dX7_parcelsAhead_3 : decode cX7_parcelsAhead 3 = .ok (.istore_n 3, 1) := by decide +kernel
theorem dX7_parcelsAhead_4 : decode cX7_parcelsAhead 4 = .ok (.iload_n 3, 1) := by decide +kernel
theorem dX7_parcelsAhead_5 : decode cX7_parcelsAhead 5 = .ok (.aload_n 0, 1) := by decide +kernel
theorem dX7_parcelsAhead_6 : decode cX7_parcelsAhead 6 = .ok (.getfield 21, 3) := by decide +kernel
theorem dX7_parcelsAhead_9 : decode cX7_parcelsAhead 9 = .ok (.getfield 134, 3) := by decide +kernel
theorem dX7_parcelsAhead_12 : decode cX7_parcelsAhead 12 = .ok (.if_icmp .ge 59, 3) := by decide +kernel
theorem dX7_parcelsAhead_15 : decode cX7_parcelsAhead 15 = .ok (.aload_n 0, 1) := by decide +kernel
theorem dX7_parcelsAhead_16 : decode cX7_parcelsAhead 16 = .ok (.getfield 49, 3) := by decide +kernel
theorem dX7_parcelsAhead_19 : decode cX7_parcelsAhead 19 = .ok (.iload_n 3, 1) := by decide +kernel
theorem dX7_parcelsAhead_20 : decode cX7_parcelsAhead 20 = .ok (.iaload, 1) := by decide +kernel
theorem dX7_parcelsAhead_21 : decode cX7_parcelsAhead 21 = .ok (.aload_n 0, 1) := by decide +kernel
theorem dX7_parcelsAhead_22 : decode cX7_parcelsAhead 22 = .ok (.getfield 49, 3) := by decide +kernel
theorem dX7_parcelsAhead_25 : decode cX7_parcelsAhead 25 = .ok (.iload_n 1, 1) := by decide +kernel
theorem dX7_parcelsAhead_26 : decode cX7_parcelsAhead 26 = .ok (.iaload, 1) := by decide +kernel
theorem dX7_parcelsAhead_27 : decode cX7_parcelsAhead 27 = .ok (.if_icmp .ne 12, 3) := by decide +kernel
theorem dX7_parcelsAhead_30 : decode cX7_parcelsAhead 30 = .ok (.iload_n 3, 1) := by decide +kernel
theorem dX7_parcelsAhead_31 : decode cX7_parcelsAhead 31 = .ok (.iload_n 1, 1) := by decide +kernel
theorem dX7_parcelsAhead_32 : decode cX7_parcelsAhead 32 = .ok (.if_icmp .ge 7, 3) := by decide +kernel
theorem dX7_parcelsAhead_35 : decode cX7_parcelsAhead 35 = .ok (.iconst 1, 1) := by decide +kernel
theorem dX7_parcelsAhead_36 : decode cX7_parcelsAhead 36 = .ok (.goto 4, 3) := by decide +kernel
theorem dX7_parcelsAhead_39 : decode cX7_parcelsAhead 39 = .ok (.iconst 0, 1) := by decide +kernel
theorem dX7_parcelsAhead_40 : decode cX7_parcelsAhead 40 = .ok (.istore 4, 2) := by decide +kernel
theorem dX7_parcelsAhead_42 : decode cX7_parcelsAhead 42 = .ok (.aload_n 0, 1) := by decide +kernel
theorem dX7_parcelsAhead_43 : decode cX7_parcelsAhead 43 = .ok (.getfield 49, 3) := by decide +kernel
theorem dX7_parcelsAhead_46 : decode cX7_parcelsAhead 46 = .ok (.iload_n 3, 1) := by decide +kernel
theorem dX7_parcelsAhead_47 : decode cX7_parcelsAhead 47 = .ok (.iaload, 1) := by decide +kernel
theorem dX7_parcelsAhead_48 : decode cX7_parcelsAhead 48 = .ok (.aload_n 0, 1) := by decide +kernel
theorem dX7_parcelsAhead_49 : decode cX7_parcelsAhead 49 = .ok (.getfield 49, 3) := by decide +kernel
theorem dX7_parcelsAhead_52 : decode cX7_parcelsAhead 52 = .ok (.iload_n 1, 1) := by decide +kernel
theorem dX7_parcelsAhead_53 : decode cX7_parcelsAhead 53 = .ok (.iaload, 1) := by decide +kernel
theorem dX7_parcelsAhead_54 : decode cX7_parcelsAhead 54 = .ok (.if_icmp .lt 8, 3) := by decide +kernel
theorem dX7_parcelsAhead_57 : decode cX7_parcelsAhead 57 = .ok (.iload 4, 2) := by decide +kernel
theorem dX7_parcelsAhead_59 : decode cX7_parcelsAhead 59 = .ok (.ifCond .eq 6, 3) := by decide +kernel
theorem dX7_parcelsAhead_62 : decode cX7_parcelsAhead 62 = .ok (.iinc 2 1, 3) := by decide +kernel
theorem dX7_parcelsAhead_65 : decode cX7_parcelsAhead 65 = .ok (.iinc 3 1, 3) := by decide +kernel
theorem dX7_parcelsAhead_68 : decode cX7_parcelsAhead 68 = .ok (.goto (-64), 3) := by decide +kernel
theorem dX7_parcelsAhead_71 : decode cX7_parcelsAhead 71 = .ok (.iload_n 2, 1) := by decide +kernel
theorem dX7_parcelsAhead_72 : decode cX7_parcelsAhead 72 = .ok (.ireturn, 1) := by decide +kernel
theorem dX7_bothArrivalsAgree_0 : decode cX7_bothArrivalsAgree 0 = .ok (.iconst 0, 1) := by decide +kernel
theorem dX7_bothArrivalsAgree_1 : decode cX7_bothArrivalsAgree 1 = .ok (.istore_n 1, 1) := by decide +kernel
theorem dX7_bothArrivalsAgree_2 : decode cX7_bothArrivalsAgree 2 = .ok (.iload_n 1, 1) := by decide +kernel
theorem dX7_bothArrivalsAgree_3 : decode cX7_bothArrivalsAgree 3 = .ok (.aload_n 0, 1) := by decide +kernel
theorem dX7_bothArrivalsAgree_4 : decode cX7_bothArrivalsAgree 4 = .ok (.getfield 21, 3) := by decide +kernel
theorem dX7_bothArrivalsAgree_7 : decode cX7_bothArrivalsAgree 7 = .ok (.getfield 74, 3) := by decide +kernel
theorem dX7_bothArrivalsAgree_10 : decode cX7_bothArrivalsAgree 10 = .ok (.getfield 78, 3) := by decide +kernel
theorem dX7_bothArrivalsAgree_13 : decode cX7_bothArrivalsAgree 13 = .ok (.if_icmp .ge 84, 3) := by decide +kernel
theorem dX7_bothArrivalsAgree_16 : decode cX7_bothArrivalsAgree 16 = .ok (.iconst 0, 1) := by decide +kernel
theorem dX7_bothArrivalsAgree_17 : decode cX7_bothArrivalsAgree 17 = .ok (.istore_n 2, 1) := by decide +kernel
theorem dX7_bothArrivalsAgree_18 : decode cX7_bothArrivalsAgree 18 = .ok (.iload_n 2, 1) := by decide +kernel
theorem dX7_bothArrivalsAgree_19 : decode cX7_bothArrivalsAgree 19 = .ok (.aload_n 0, 1) := by decide +kernel
theorem dX7_bothArrivalsAgree_20 : decode cX7_bothArrivalsAgree 20 = .ok (.getfield 21, 3) := by decide +kernel
theorem dX7_bothArrivalsAgree_23 : decode cX7_bothArrivalsAgree 23 = .ok (.getfield 74, 3) := by decide +kernel
theorem dX7_bothArrivalsAgree_26 : decode cX7_bothArrivalsAgree 26 = .ok (.getfield 78, 3) := by decide +kernel
theorem dX7_bothArrivalsAgree_29 : decode cX7_bothArrivalsAgree 29 = .ok (.if_icmp .ge 62, 3) := by decide +kernel
theorem dX7_bothArrivalsAgree_32 : decode cX7_bothArrivalsAgree 32 = .ok (.aload_n 0, 1) := by decide +kernel
theorem dX7_bothArrivalsAgree_33 : decode cX7_bothArrivalsAgree 33 = .ok (.getfield 10, 3) := by decide +kernel
theorem dX7_bothArrivalsAgree_36 : decode cX7_bothArrivalsAgree 36 = .ok (.aload_n 0, 1) := by decide +kernel
theorem dX7_bothArrivalsAgree_37 : decode cX7_bothArrivalsAgree 37 = .ok (.getfield 21, 3) := by decide +kernel
theorem dX7_bothArrivalsAgree_40 : decode cX7_bothArrivalsAgree 40 = .ok (.getfield 74, 3) := by decide +kernel
theorem dX7_bothArrivalsAgree_43 : decode cX7_bothArrivalsAgree 43 = .ok (.iload_n 1, 1) := by decide +kernel
theorem dX7_bothArrivalsAgree_44 : decode cX7_bothArrivalsAgree 44 = .ok (.iload_n 2, 1) := by decide +kernel
theorem dX7_bothArrivalsAgree_45 : decode cX7_bothArrivalsAgree 45 = .ok (.aload_n 0, 1) := by decide +kernel
theorem dX7_bothArrivalsAgree_46 : decode cX7_bothArrivalsAgree 46 = .ok (.getfield 21, 3) := by decide +kernel
theorem dX7_bothArrivalsAgree_49 : decode cX7_bothArrivalsAgree 49 = .ok (.getfield 71, 3) := by decide +kernel
theorem dX7_bothArrivalsAgree_52 : decode cX7_bothArrivalsAgree 52 = .ok (.invokevirtual 179, 3) := by decide +kernel
theorem dX7_bothArrivalsAgree_55 : decode cX7_bothArrivalsAgree 55 = .ok (.istore_n 3, 1) := by decide +kernel
theorem dX7_bothArrivalsAgree_56 : decode cX7_bothArrivalsAgree 56 = .ok (.iload_n 3, 1) := by decide +kernel
theorem dX7_bothArrivalsAgree_57 : decode cX7_bothArrivalsAgree 57 = .ok (.aload_n 0, 1) := by decide +kernel
theorem dX7_bothArrivalsAgree_58 : decode cX7_bothArrivalsAgree 58 = .ok (.getfield 10, 3) := by decide +kernel
theorem dX7_bothArrivalsAgree_61 : decode cX7_bothArrivalsAgree 61 = .ok (.aload_n 0, 1) := by decide +kernel
theorem dX7_bothArrivalsAgree_62 : decode cX7_bothArrivalsAgree 62 = .ok (.getfield 21, 3) := by decide +kernel
theorem dX7_bothArrivalsAgree_65 : decode cX7_bothArrivalsAgree 65 = .ok (.getfield 74, 3) := by decide +kernel
theorem dX7_bothArrivalsAgree_68 : decode cX7_bothArrivalsAgree 68 = .ok (.iload_n 1, 1) := by decide +kernel
theorem dX7_bothArrivalsAgree_69 : decode cX7_bothArrivalsAgree 69 = .ok (.iload_n 2, 1) := by decide +kernel
theorem dX7_bothArrivalsAgree_70 : decode cX7_bothArrivalsAgree 70 = .ok (.aload_n 0, 1) := by decide +kernel
theorem dX7_bothArrivalsAgree_71 : decode cX7_bothArrivalsAgree 71 = .ok (.getfield 21, 3) := by decide +kernel
theorem dX7_bothArrivalsAgree_74 : decode cX7_bothArrivalsAgree 74 = .ok (.getfield 71, 3) := by decide +kernel
theorem dX7_bothArrivalsAgree_77 : decode cX7_bothArrivalsAgree 77 = .ok (.invokevirtual 186, 3) := by decide +kernel
theorem dX7_bothArrivalsAgree_80 : decode cX7_bothArrivalsAgree 80 = .ok (.if_icmp .eq 5, 3) := by decide +kernel
theorem dX7_bothArrivalsAgree_83 : decode cX7_bothArrivalsAgree 83 = .ok (.iconst 0, 1) := by decide +kernel
theorem dX7_bothArrivalsAgree_84 : decode cX7_bothArrivalsAgree 84 = .ok (.ireturn, 1) := by decide +kernel
theorem dX7_bothArrivalsAgree_85 : decode cX7_bothArrivalsAgree 85 = .ok (.iinc 2 1, 3) := by decide +kernel
theorem dX7_bothArrivalsAgree_88 : decode cX7_bothArrivalsAgree 88 = .ok (.goto (-70), 3) := by decide +kernel
theorem dX7_bothArrivalsAgree_91 : decode cX7_bothArrivalsAgree 91 = .ok (.iinc 1 1, 3) := by decide +kernel
theorem dX7_bothArrivalsAgree_94 : decode cX7_bothArrivalsAgree 94 = .ok (.goto (-92), 3) := by decide +kernel
theorem dX7_bothArrivalsAgree_97 : decode cX7_bothArrivalsAgree 97 = .ok (.iconst 1, 1) := by decide +kernel
theorem dX7_bothArrivalsAgree_98 : decode cX7_bothArrivalsAgree 98 = .ok (.ireturn, 1) := by decide +kernel
