theorem dX0_init_0 : decode cX0_init 0 = .ok (.aload_n 0, 1) := by decide +kernel
theorem dX0_init_1 : decode cX0_init 1 = .ok (.invokespecial 3, 3) := by decide +kernel
theorem dX0_init_4 : decode cX0_init 4 = .ok (.aload_n 0, 1) := by decide +kernel
theorem dX0_init_5 : decode cX0_init 5 = .ok (.iconst 0, 1) := by decide +kernel
theorem dX0_init_6 : decode cX0_init 6 = .ok (.putfield 9, 3) := by decide +kernel
theorem dX0_init_9 : decode cX0_init 9 = .ok (.aload_n 0, 1) := by decide +kernel
theorem dX0_init_10 : decode cX0_init 10 = .ok (.iconst 0, 1) := by decide +kernel
theorem dX0_init_11 : decode cX0_init 11 = .ok (.putfield 15, 3) := by decide +kernel
theorem dX0_init_14 : decode cX0_init 14 = .ok (.aload_n 0, 1) := by decide +kernel
theorem dX0_init_15 : decode cX0_init 15 = .ok (.bipush 100, 2) := by decide +kernel
theorem dX0_init_17 : decode cX0_init 17 = .ok (.newarray .int, 2) := by decide +kernel
theorem dX0_init_19 : decode cX0_init 19 = .ok (.putfield 18, 3) := by decide +kernel
theorem dX0_init_22 : decode cX0_init 22 = .ok (.aload_n 0, 1) := by decide +kernel
theorem dX0_init_23 : decode cX0_init 23 = .ok (.bipush 100, 2) := by decide +kernel
theorem dX0_init_25 : decode cX0_init 25 = .ok (.newarray .int, 2) := by decide +kernel
theorem dX0_init_27 : decode cX0_init 27 = .ok (.putfield 22, 3) := by decide +kernel
theorem dX0_init_30 : decode cX0_init 30 = .ok (.return_, 1) := by decide +kernel
theorem dX0_clear_0 : decode cX0_clear 0 = .ok (.aload_n 0, 1) := by decide +kernel
theorem dX0_clear_1 : decode cX0_clear 1 = .ok (.iconst 0, 1) := by decide +kernel
theorem dX0_clear_2 : decode cX0_clear 2 = .ok (.putfield 9, 3) := by decide +kernel
theorem dX0_clear_5 : decode cX0_clear 5 = .ok (.return_, 1) := by decide +kernel
theorem dX0_keep_0 : decode cX0_keep 0 = .ok (.aload_n 0, 1) := by decide +kernel
theorem dX0_keep_1 : decode cX0_keep 1 = .ok (.getfield 18, 3) := by decide +kernel
theorem dX0_keep_4 : decode cX0_keep 4 = .ok (.aload_n 0, 1) := by decide +kernel
theorem dX0_keep_5 : decode cX0_keep 5 = .ok (.getfield 15, 3) := by decide +kernel
theorem dX0_keep_8 : decode cX0_keep 8 = .ok (.iload_n 1, 1) := by decide +kernel
theorem dX0_keep_9 : decode cX0_keep 9 = .ok (.iastore, 1) := by decide +kernel
theorem dX0_keep_10 : decode cX0_keep 10 = .ok (.aload_n 0, 1) := by decide +kernel
theorem dX0_keep_11 : decode cX0_keep 11 = .ok (.getfield 22, 3) := by decide +kernel
theorem dX0_keep_14 : decode cX0_keep 14 = .ok (.aload_n 0, 1) := by decide +kernel
theorem dX0_keep_15 : decode cX0_keep 15 = .ok (.getfield 15, 3) := by decide +kernel
theorem dX0_keep_18 : decode cX0_keep 18 = .ok (.iload_n 2, 1) := by decide +kernel
theorem dX0_keep_19 : decode cX0_keep 19 = .ok (.iastore, 1) := by decide +kernel
theorem dX0_keep_20 : decode cX0_keep 20 = .ok (.aload_n 0, 1) := by decide +kernel
theorem dX0_keep_21 : decode cX0_keep 21 = .ok (.aload_n 0, 1) := by decide +kernel
theorem dX0_keep_22 : decode cX0_keep 22 = .ok (.getfield 15, 3) := by decide +kernel
theorem dX0_keep_25 : decode cX0_keep 25 = .ok (.iconst 1, 1) := by decide +kernel
theorem dX0_keep_26 : decode cX0_keep 26 = .ok (.iadd, 1) := by decide +kernel
theorem dX0_keep_27 : decode cX0_keep 27 = .ok (.bipush 100, 2) := by decide +kernel
theorem dX0_keep_29 : decode cX0_keep 29 = .ok (.if_icmp .ge 12, 3) := by decide +kernel
theorem dX0_keep_32 : decode cX0_keep 32 = .ok (.aload_n 0, 1) := by decide +kernel
theorem dX0_keep_33 : decode cX0_keep 33 = .ok (.getfield 15, 3) := by decide +kernel
theorem dX0_keep_36 : decode cX0_keep 36 = .ok (.iconst 1, 1) := by decide +kernel
theorem dX0_keep_37 : decode cX0_keep 37 = .ok (.iadd, 1) := by decide +kernel
theorem dX0_keep_38 : decode cX0_keep 38 = .ok (.goto 4, 3) := by decide +kernel
theorem dX0_keep_41 : decode cX0_keep 41 = .ok (.iconst 0, 1) := by decide +kernel
theorem dX0_keep_42 : decode cX0_keep 42 = .ok (.putfield 15, 3) := by decide +kernel
theorem dX0_keep_45 : decode cX0_keep 45 = .ok (.aload_n 0, 1) := by decide +kernel
theorem dX0_keep_46 : decode cX0_keep 46 = .ok (.aload_n 0, 1) := by decide +kernel
theorem dX0_keep_47 : decode cX0_keep 47 = .ok (.getfield 9, 3) := by decide +kernel
theorem dX0_keep_50 : decode cX0_keep 50 = .ok (.iconst 1, 1) := by decide +kernel
theorem dX0_keep_51 : decode cX0_keep 51 = .ok (.iadd, 1) := by decide +kernel
theorem dX0_keep_52 : decode cX0_keep 52 = .ok (.bipush 100, 2) := by decide +kernel
theorem dX0_keep_54 : decode cX0_keep 54 = .ok (.invokestatic 25, 3) := by decide +kernel
theorem dX0_keep_57 : decode cX0_keep 57 = .ok (.putfield 9, 3) := by decide +kernel
theorem dX0_keep_60 : decode cX0_keep 60 = .ok (.return_, 1) := by decide +kernel
theorem dX0_stepBack_0 : decode cX0_stepBack 0 = .ok (.aload_n 0, 1) := by decide +kernel
theorem dX0_stepBack_1 : decode cX0_stepBack 1 = .ok (.aload_n 0, 1) := by decide +kernel
theorem dX0_stepBack_2 : decode cX0_stepBack 2 = .ok (.getfield 15, 3) := by decide +kernel
theorem dX0_stepBack_5 : decode cX0_stepBack 5 = .ok (.ifCond .le 12, 3) := by decide +kernel
theorem dX0_stepBack_8 : decode cX0_stepBack 8 = .ok (.aload_n 0, 1) := by decide +kernel
theorem dX0_stepBack_9 : decode cX0_stepBack 9 = .ok (.getfield 15, 3) := by decide +kernel
theorem dX0_stepBack_12 : decode cX0_stepBack 12 = .ok (.iconst 1, 1) := by decide +kernel
theorem dX0_stepBack_13 : decode cX0_stepBack 13 = .ok (.isub, 1) := by decide +kernel
theorem dX0_stepBack_14 : decode cX0_stepBack 14 = .ok (.goto 5, 3) := by decide +kernel
theorem dX0_stepBack_17 : decode cX0_stepBack 17 = .ok (.bipush 99, 2) := by decide +kernel
theorem dX0_stepBack_19 : decode cX0_stepBack 19 = .ok (.putfield 15, 3) := by decide +kernel
theorem dX0_stepBack_22 : decode cX0_stepBack 22 = .ok (.aload_n 0, 1) := by decide +kernel
theorem dX0_stepBack_23 : decode cX0_stepBack 23 = .ok (.aload_n 0, 1) := by decide +kernel
theorem dX0_stepBack_24 : decode cX0_stepBack 24 = .ok (.getfield 9, 3) := by decide +kernel
theorem dX0_stepBack_27 : decode cX0_stepBack 27 = .ok (.iconst 1, 1) := by decide +kernel
theorem dX0_stepBack_28 : decode cX0_stepBack 28 = .ok (.isub, 1) := by decide +kernel
theorem dX0_stepBack_29 : decode cX0_stepBack 29 = .ok (.iconst 0, 1) := by decide +kernel
theorem dX0_stepBack_30 : decode cX0_stepBack 30 = .ok (.invokestatic 31, 3) := by decide +kernel
theorem dX0_stepBack_33 : decode cX0_stepBack 33 = .ok (.putfield 9, 3) := by decide +kernel
theorem dX0_stepBack_36 : decode cX0_stepBack 36 = .ok (.return_, 1) := by decide +kernel
theorem dX0_sceneThere_0 : decode cX0_sceneThere 0 = .ok (.aload_n 0, 1) := by decide +kernel
theorem dX0_sceneThere_1 : decode cX0_sceneThere 1 = .ok (.getfield 18, 3) := by decide +kernel
theorem dX0_sceneThere_4 : decode cX0_sceneThere 4 = .ok (.aload_n 0, 1) := by decide +kernel
theorem dX0_sceneThere_5 : decode cX0_sceneThere 5 = .ok (.getfield 15, 3) := by decide +kernel
theorem dX0_sceneThere_8 : decode cX0_sceneThere 8 = .ok (.iaload, 1) := by decide +kernel
theorem dX0_sceneThere_9 : decode cX0_sceneThere 9 = .ok (.ireturn, 1) := by decide +kernel
theorem dX0_madeThere_0 : decode cX0_madeThere 0 = .ok (.aload_n 0, 1) := by decide +kernel
theorem dX0_madeThere_1 : decode cX0_madeThere 1 = .ok (.getfield 22, 3) := by decide +kernel
theorem dX0_madeThere_4 : decode cX0_madeThere 4 = .ok (.aload_n 0, 1) := by decide +kernel
theorem dX0_madeThere_5 : decode cX0_madeThere 5 = .ok (.getfield 15, 3) := by decide +kernel
theorem dX0_madeThere_8 : decode cX0_madeThere 8 = .ok (.iaload, 1) := by decide +kernel
theorem dX0_madeThere_9 : decode cX0_madeThere 9 = .ok (.ireturn, 1) := by decide +kernel
theorem dX1_init_0 : decode cX1_init 0 = .ok (.aload_n 0, 1) := by decide +kernel
theorem dX1_init_1 : decode cX1_init 1 = .ok (.invokespecial 5, 3) := by decide +kernel
theorem dX1_init_4 : decode cX1_init 4 = .ok (.aload_n 0, 1) := by decide +kernel
theorem dX1_init_5 : decode cX1_init 5 = .ok (.bipush 19, 2) := by decide +kernel
theorem dX1_init_7 : decode cX1_init 7 = .ok (.newarray .int, 2) := by decide +kernel
theorem dX1_init_9 : decode cX1_init 9 = .ok (.putfield 11, 3) := by decide +kernel
theorem dX1_init_12 : decode cX1_init 12 = .ok (.aload_n 0, 1) := by decide +kernel
theorem dX1_init_13 : decode cX1_init 13 = .ok (.bipush 19, 2) := by decide +kernel
theorem dX1_init_15 : decode cX1_init 15 = .ok (.newarray .int, 2) := by decide +kernel
theorem dX1_init_17 : decode cX1_init 17 = .ok (.putfield 15, 3) := by decide +kernel
theorem dX1_init_20 : decode cX1_init 20 = .ok (.aload_n 0, 1) := by decide +kernel
theorem dX1_init_21 : decode cX1_init 21 = .ok (.sipush 4096, 3) := by decide +kernel
theorem dX1_init_24 : decode cX1_init 24 = .ok (.newarray .int, 2) := by decide +kernel
theorem dX1_init_26 : decode cX1_init 26 = .ok (.putfield 18, 3) := by decide +kernel
theorem dX1_init_29 : decode cX1_init 29 = .ok (.aload_n 0, 1) := by decide +kernel
theorem dX1_init_30 : decode cX1_init 30 = .ok (.sipush 4096, 3) := by decide +kernel
theorem dX1_init_33 : decode cX1_init 33 = .ok (.newarray .int, 2) := by decide +kernel
theorem dX1_init_35 : decode cX1_init 35 = .ok (.putfield 21, 3) := by decide +kernel
theorem dX1_init_38 : decode cX1_init 38 = .ok (.aload_n 0, 1) := by decide +kernel
theorem dX1_init_39 : decode cX1_init 39 = .ok (.iconst 0, 1) := by decide +kernel
theorem dX1_init_40 : decode cX1_init 40 = .ok (.putfield 24, 3) := by decide +kernel
theorem dX1_init_43 : decode cX1_init 43 = .ok (.aload_n 0, 1) := by decide +kernel
theorem dX1_init_44 : decode cX1_init 44 = .ok (.iconst (-1), 1) := by decide +kernel
theorem dX1_init_45 : decode cX1_init 45 = .ok (.putfield 28, 3) := by decide +kernel
theorem dX1_init_48 : decode cX1_init 48 = .ok (.aload_n 0, 1) := by decide +kernel
theorem dX1_init_49 : decode cX1_init 49 = .ok (.iconst (-1), 1) := by decide +kernel
theorem dX1_init_50 : decode cX1_init 50 = .ok (.putfield 31, 3) := by decide +kernel
theorem dX1_init_53 : decode cX1_init 53 = .ok (.aload_n 0, 1) := by decide +kernel
theorem dX1_init_54 : decode cX1_init 54 = .ok (.iconst (-1), 1) := by decide +kernel
theorem dX1_init_55 : decode cX1_init 55 = .ok (.putfield 34, 3) := by decide +kernel
theorem dX1_init_58 : decode cX1_init 58 = .ok (.aload_n 0, 1) := by decide +kernel
theorem dX1_init_59 : decode cX1_init 59 = .ok (.aload_n 1, 1) := by decide +kernel
theorem dX1_init_60 : decode cX1_init 60 = .ok (.putfield 37, 3) := by decide +kernel
theorem dX1_init_63 : decode cX1_init 63 = .ok (.aload_n 0, 1) := by decide +kernel
theorem dX1_init_64 : decode cX1_init 64 = .ok (.getfield 11, 3) := by decide +kernel
theorem dX1_init_67 : decode cX1_init 67 = .ok (.bipush (-9), 2) := by decide +kernel
theorem dX1_init_69 : decode cX1_init 69 = .ok (.invokestatic 41, 3) := by decide +kernel
theorem dX1_init_72 : decode cX1_init 72 = .ok (.aload_n 0, 1) := by decide +kernel
theorem dX1_init_73 : decode cX1_init 73 = .ok (.getfield 15, 3) := by decide +kernel
theorem dX1_init_76 : decode cX1_init 76 = .ok (.bipush (-9), 2) := by decide +kernel
theorem dX1_init_78 : decode cX1_init 78 = .ok (.invokestatic 41, 3) := by decide +kernel
theorem dX1_init_81 : decode cX1_init 81 = .ok (.return_, 1) := by decide +kernel
theorem dX1_outdate_0 : decode cX1_outdate 0 = .ok (.aload_n 0, 1) := by decide +kernel
theorem dX1_outdate_1 : decode cX1_outdate 1 = .ok (.getfield 11, 3) := by decide +kernel
theorem dX1_outdate_4 : decode cX1_outdate 4 = .ok (.bipush (-9), 2) := by decide +kernel
theorem dX1_outdate_6 : decode cX1_outdate 6 = .ok (.invokestatic 41, 3) := by decide +kernel
theorem dX1_outdate_9 : decode cX1_outdate 9 = .ok (.aload_n 0, 1) := by decide +kernel
theorem dX1_outdate_10 : decode cX1_outdate 10 = .ok (.getfield 15, 3) := by decide +kernel
theorem dX1_outdate_13 : decode cX1_outdate 13 = .ok (.bipush (-9), 2) := by decide +kernel
theorem dX1_outdate_15 : decode cX1_outdate 15 = .ok (.invokestatic 41, 3) := by decide +kernel
theorem dX1_outdate_18 : decode cX1_outdate 18 = .ok (.aload_n 0, 1) := by decide +kernel
theorem dX1_outdate_19 : decode cX1_outdate 19 = .ok (.iconst (-1), 1) := by decide +kernel
theorem dX1_outdate_20 : decode cX1_outdate 20 = .ok (.putfield 31, 3) := by decide +kernel
theorem dX1_outdate_23 : decode cX1_outdate 23 = .ok (.aload_n 0, 1) := by decide +kernel
theorem dX1_outdate_24 : decode cX1_outdate 24 = .ok (.iconst (-1), 1) := by decide +kernel
theorem dX1_outdate_25 : decode cX1_outdate 25 = .ok (.putfield 34, 3) := by decide +kernel
theorem dX1_outdate_28 : decode cX1_outdate 28 = .ok (.return_, 1) := by decide +kernel
theorem dX1_makesFor_0 : decode cX1_makesFor 0 = .ok (.aload_n 0, 1) := by decide +kernel
theorem dX1_makesFor_1 : decode cX1_makesFor 1 = .ok (.getfield 11, 3) := by decide +kernel
theorem dX1_makesFor_4 : decode cX1_makesFor 4 = .ok (.iload_n 1, 1) := by decide +kernel
theorem dX1_makesFor_5 : decode cX1_makesFor 5 = .ok (.iaload, 1) := by decide +kernel
theorem dX1_makesFor_6 : decode cX1_makesFor 6 = .ok (.bipush (-9), 2) := by decide +kernel
theorem dX1_makesFor_8 : decode cX1_makesFor 8 = .ok (.if_icmp .ne 8, 3) := by decide +kernel
theorem dX1_makesFor_11 : decode cX1_makesFor 11 = .ok (.aload_n 0, 1) := by decide +kernel
theorem dX1_makesFor_12 : decode cX1_makesFor 12 = .ok (.iload_n 1, 1) := by decide +kernel
theorem dX1_makesFor_13 : decode cX1_makesFor 13 = .ok (.invokevirtual 47, 3) := by decide +kernel
theorem dX1_makesFor_16 : decode cX1_makesFor 16 = .ok (.aload_n 0, 1) := by decide +kernel
theorem dX1_makesFor_17 : decode cX1_makesFor 17 = .ok (.getfield 11, 3) := by decide +kernel
theorem dX1_makesFor_20 : decode cX1_makesFor 20 = .ok (.iload_n 1, 1) := by decide +kernel
theorem dX1_makesFor_21 : decode cX1_makesFor 21 = .ok (.iaload, 1) := by decide +kernel
theorem dX1_makesFor_22 : decode cX1_makesFor 22 = .ok (.ireturn, 1) := by decide +kernel
theorem dX1_actsFor_0 : decode cX1_actsFor 0 = .ok (.aload_n 0, 1) := by decide +kernel
theorem dX1_actsFor_1 : decode cX1_actsFor 1 = .ok (.getfield 34, 3) := by decide +kernel
theorem dX1_actsFor_4 : decode cX1_actsFor 4 = .ok (.iload_n 1, 1) := by decide +kernel
theorem dX1_actsFor_5 : decode cX1_actsFor 5 = .ok (.if_icmp .eq 44, 3) := by decide +kernel
theorem dX1_actsFor_8 : decode cX1_actsFor 8 = .ok (.aload_n 0, 1) := by decide +kernel
theorem dX1_actsFor_9 : decode cX1_actsFor 9 = .ok (.getfield 31, 3) := by decide +kernel
theorem dX1_actsFor_12 : decode cX1_actsFor 12 = .ok (.iload_n 1, 1) := by decide +kernel
theorem dX1_actsFor_13 : decode cX1_actsFor 13 = .ok (.if_icmp .eq 8, 3) := by decide +kernel
theorem dX1_actsFor_16 : decode cX1_actsFor 16 = .ok (.aload_n 0, 1) := by decide +kernel
theorem dX1_actsFor_17 : decode cX1_actsFor 17 = .ok (.iload_n 1, 1) := by decide +kernel
theorem dX1_actsFor_18 : decode cX1_actsFor 18 = .ok (.invokevirtual 47, 3) := by decide +kernel
theorem dX1_actsFor_21 : decode cX1_actsFor 21 = .ok (.aload_n 0, 1) := by decide +kernel
theorem dX1_actsFor_22 : decode cX1_actsFor 22 = .ok (.getfield 28, 3) := by decide +kernel
theorem dX1_actsFor_25 : decode cX1_actsFor 25 = .ok (.iconst (-1), 1) := by decide +kernel
theorem dX1_actsFor_26 : decode cX1_actsFor 26 = .ok (.if_icmp .eq 13, 3) := by decide +kernel
theorem dX1_actsFor_29 : decode cX1_actsFor 29 = .ok (.aload_n 0, 1) := by decide +kernel
theorem dX1_actsFor_30 : decode cX1_actsFor 30 = .ok (.iload_n 1, 1) := by decide +kernel
theorem dX1_actsFor_31 : decode cX1_actsFor 31 = .ok (.invokevirtual 51, 3) := by decide +kernel
theorem dX1_actsFor_34 : decode cX1_actsFor 34 = .ok (.aload_n 0, 1) := by decide +kernel
theorem dX1_actsFor_35 : decode cX1_actsFor 35 = .ok (.iload_n 1, 1) := by decide +kernel
theorem dX1_actsFor_36 : decode cX1_actsFor 36 = .ok (.invokevirtual 54, 3) := by decide +kernel
theorem dX1_actsFor_39 : decode cX1_actsFor 39 = .ok (.aload_n 0, 1) := by decide +kernel
theorem dX1_actsFor_40 : decode cX1_actsFor 40 = .ok (.iconst (-1), 1) := by decide +kernel
theorem dX1_actsFor_41 : decode cX1_actsFor 41 = .ok (.putfield 31, 3) := by decide +kernel
theorem dX1_actsFor_44 : decode cX1_actsFor 44 = .ok (.aload_n 0, 1) := by decide +kernel
theorem dX1_actsFor_45 : decode cX1_actsFor 45 = .ok (.iload_n 1, 1) := by decide +kernel
theorem dX1_actsFor_46 : decode cX1_actsFor 46 = .ok (.putfield 34, 3) := by decide +kernel
theorem dX1_actsFor_49 : decode cX1_actsFor 49 = .ok (.aload_n 0, 1) := by decide +kernel
theorem dX1_actsFor_50 : decode cX1_actsFor 50 = .ok (.getfield 28, 3) := by decide +kernel
theorem dX1_actsFor_53 : decode cX1_actsFor 53 = .ok (.iconst (-1), 1) := by decide +kernel
theorem dX1_actsFor_54 : decode cX1_actsFor 54 = .ok (.if_icmp .ne 7, 3) := by decide +kernel
theorem dX1_actsFor_57 : decode cX1_actsFor 57 = .ok (.iconst (-1), 1) := by decide +kernel
theorem dX1_actsFor_58 : decode cX1_actsFor 58 = .ok (.goto 10, 3) := by decide +kernel
theorem dX1_actsFor_61 : decode cX1_actsFor 61 = .ok (.aload_n 0, 1) := by decide +kernel
theorem dX1_actsFor_62 : decode cX1_actsFor 62 = .ok (.getfield 28, 3) := by decide +kernel
theorem dX1_actsFor_65 : decode cX1_actsFor 65 = .ok (.ldc 57, 2) := by decide +kernel
theorem dX1_actsFor_67 : decode cX1_actsFor 67 = .ok (.iand, 1) := by decide +kernel
theorem dX1_actsFor_68 : decode cX1_actsFor 68 = .ok (.ireturn, 1) := by decide +kernel
theorem dX1_actAt_0 : decode cX1_actAt 0 = .ok (.iload_n 1, 1) := by decide +kernel
theorem dX1_actAt_1 : decode cX1_actAt 1 = .ok (.ifCond .lt 21, 3) := by decide +kernel
theorem dX1_actAt_4 : decode cX1_actAt 4 = .ok (.iload_n 1, 1) := by decide +kernel
theorem dX1_actAt_5 : decode cX1_actAt 5 = .ok (.aload_n 0, 1) := by decide +kernel
theorem dX1_actAt_6 : decode cX1_actAt 6 = .ok (.getfield 21, 3) := by decide +kernel
theorem dX1_actAt_9 : decode cX1_actAt 9 = .ok (.arraylength, 1) := by decide +kernel
theorem dX1_actAt_10 : decode cX1_actAt 10 = .ok (.if_icmp .ge 12, 3) := by decide +kernel
theorem dX1_actAt_13 : decode cX1_actAt 13 = .ok (.aload_n 0, 1) := by decide +kernel
theorem dX1_actAt_14 : decode cX1_actAt 14 = .ok (.getfield 21, 3) := by decide +kernel
theorem dX1_actAt_17 : decode cX1_actAt 17 = .ok (.iload_n 1, 1) := by decide +kernel
theorem dX1_actAt_18 : decode cX1_actAt 18 = .ok (.iaload, 1) := by decide +kernel
theorem dX1_actAt_19 : decode cX1_actAt 19 = .ok (.goto 4, 3) := by decide +kernel
theorem dX1_actAt_22 : decode cX1_actAt 22 = .ok (.iconst (-1), 1) := by decide +kernel
theorem dX1_actAt_23 : decode cX1_actAt 23 = .ok (.ireturn, 1) := by decide +kernel
theorem dX1_scenesFor_0 : decode cX1_scenesFor 0 = .ok (.aload_n 0, 1) := by decide +kernel
theorem dX1_scenesFor_1 : decode cX1_scenesFor 1 = .ok (.getfield 15, 3) := by decide +kernel
theorem dX1_scenesFor_4 : decode cX1_scenesFor 4 = .ok (.iload_n 1, 1) := by decide +kernel
theorem dX1_scenesFor_5 : decode cX1_scenesFor 5 = .ok (.iaload, 1) := by decide +kernel
theorem dX1_scenesFor_6 : decode cX1_scenesFor 6 = .ok (.bipush (-9), 2) := by decide +kernel
theorem dX1_scenesFor_8 : decode cX1_scenesFor 8 = .ok (.if_icmp .ne 17, 3) := by decide +kernel
theorem dX1_scenesFor_11 : decode cX1_scenesFor 11 = .ok (.aload_n 0, 1) := by decide +kernel
theorem dX1_scenesFor_12 : decode cX1_scenesFor 12 = .ok (.getfield 15, 3) := by decide +kernel
theorem dX1_scenesFor_15 : decode cX1_scenesFor 15 = .ok (.iload_n 1, 1) := by decide +kernel
theorem dX1_scenesFor_16 : decode cX1_scenesFor 16 = .ok (.aload_n 0, 1) := by decide +kernel
theorem dX1_scenesFor_17 : decode cX1_scenesFor 17 = .ok (.iload_n 1, 1) := by decide +kernel
theorem dX1_scenesFor_18 : decode cX1_scenesFor 18 = .ok (.sipush (-3585), 3) := by decide +kernel
theorem dX1_scenesFor_21 : decode cX1_scenesFor 21 = .ok (.invokevirtual 58, 3) := by decide +kernel
theorem dX1_scenesFor_24 : decode cX1_scenesFor 24 = .ok (.iastore, 1) := by decide +kernel
theorem dX1_scenesFor_25 : decode cX1_scenesFor 25 = .ok (.aload_n 0, 1) := by decide +kernel
theorem dX1_scenesFor_26 : decode cX1_scenesFor 26 = .ok (.getfield 15, 3) := by decide +kernel
theorem dX1_scenesFor_29 : decode cX1_scenesFor 29 = .ok (.iload_n 1, 1) := by decide +kernel
theorem dX1_scenesFor_30 : decode cX1_scenesFor 30 = .ok (.iaload, 1) := by decide +kernel
theorem dX1_scenesFor_31 : decode cX1_scenesFor 31 = .ok (.ireturn, 1) := by decide +kernel
theorem dX1_flood_0 : decode cX1_flood 0 = .ok (.aload_n 0, 1) := by decide +kernel
theorem dX1_flood_1 : decode cX1_flood 1 = .ok (.invokevirtual 62, 3) := by decide +kernel
theorem dX1_flood_4 : decode cX1_flood 4 = .ok (.iconst 0, 1) := by decide +kernel
theorem dX1_flood_5 : decode cX1_flood 5 = .ok (.istore_n 3, 1) := by decide +kernel
theorem dX1_flood_6 : decode cX1_flood 6 = .ok (.iload_n 3, 1) := by decide +kernel
theorem dX1_flood_7 : decode cX1_flood 7 = .ok (.aload_n 0, 1) := by decide +kernel
theorem dX1_flood_8 : decode cX1_flood 8 = .ok (.getfield 21, 3) := by decide +kernel
theorem dX1_flood_11 : decode cX1_flood 11 = .ok (.arraylength, 1) := by decide +kernel
theorem dX1_flood_12 : decode cX1_flood 12 = .ok (.if_icmp .ge 70, 3) := by decide +kernel
theorem dX1_flood_15 : decode cX1_flood 15 = .ok (.iload_n 3, 1) := by decide +kernel
theorem dX1_flood_16 : decode cX1_flood 16 = .ok (.aload_n 0, 1) := by decide +kernel
theorem dX1_flood_17 : decode cX1_flood 17 = .ok (.getfield 24, 3) := by decide +kernel
theorem dX1_flood_20 : decode cX1_flood 20 = .ok (.if_icmp .ge 62, 3) := by decide +kernel
theorem dX1_flood_23 : decode cX1_flood 23 = .ok (.iconst 0, 1) := by decide +kernel
theorem dX1_flood_24 : decode cX1_flood 24 = .ok (.istore 4, 2) := by decide +kernel
theorem dX1_flood_26 : decode cX1_flood 26 = .ok (.iload 4, 2) := by decide +kernel
theorem dX1_flood_28 : decode cX1_flood 28 = .ok (.bipush 18, 2) := by decide +kernel
theorem dX1_flood_30 : decode cX1_flood 30 = .ok (.if_icmp .ge 46, 3) := by decide +kernel
theorem dX1_flood_33 : decode cX1_flood 33 = .ok (.aload_n 0, 1) := by decide +kernel
theorem dX1_flood_34 : decode cX1_flood 34 = .ok (.getfield 37, 3) := by decide +kernel
theorem dX1_flood_37 : decode cX1_flood 37 = .ok (.aload_n 0, 1) := by decide +kernel
theorem dX1_flood_38 : decode cX1_flood 38 = .ok (.getfield 21, 3) := by decide +kernel
theorem dX1_flood_41 : decode cX1_flood 41 = .ok (.iload_n 3, 1) := by decide +kernel
theorem dX1_flood_42 : decode cX1_flood 42 = .ok (.iaload, 1) := by decide +kernel
theorem dX1_flood_43 : decode cX1_flood 43 = .ok (.iload 4, 2) := by decide +kernel
theorem dX1_flood_45 : decode cX1_flood 45 = .ok (.iload_n 1, 1) := by decide +kernel
theorem dX1_flood_46 : decode cX1_flood 46 = .ok (.invokevirtual 65, 3) := by decide +kernel
theorem dX1_flood_49 : decode cX1_flood 49 = .ok (.istore 5, 2) := by decide +kernel
theorem dX1_flood_51 : decode cX1_flood 51 = .ok (.aload_n 0, 1) := by decide +kernel
theorem dX1_flood_52 : decode cX1_flood 52 = .ok (.iload 5, 2) := by decide +kernel
theorem dX1_flood_54 : decode cX1_flood 54 = .ok (.iconst (-1), 1) := by decide +kernel
theorem dX1_flood_55 : decode cX1_flood 55 = .ok (.if_icmp .ne 7, 3) := by decide +kernel
theorem dX1_flood_58 : decode cX1_flood 58 = .ok (.iconst (-1), 1) := by decide +kernel
theorem dX1_flood_59 : decode cX1_flood 59 = .ok (.goto 7, 3) := by decide +kernel
theorem dX1_flood_62 : decode cX1_flood 62 = .ok (.iload 5, 2) := by decide +kernel
theorem dX1_flood_64 : decode cX1_flood 64 = .ok (.iload_n 2, 1) := by decide +kernel
theorem dX1_flood_65 : decode cX1_flood 65 = .ok (.iand, 1) := by decide +kernel
theorem dX1_flood_66 : decode cX1_flood 66 = .ok (.iconst 0, 1) := by decide +kernel
theorem dX1_flood_67 : decode cX1_flood 67 = .ok (.invokevirtual 71, 3) := by decide +kernel
theorem dX1_flood_70 : decode cX1_flood 70 = .ok (.iinc 4 1, 3) := by decide +kernel
theorem dX1_flood_73 : decode cX1_flood 73 = .ok (.goto (-47), 3) := by decide +kernel
theorem dX1_flood_76 : decode cX1_flood 76 = .ok (.iinc 3 1, 3) := by decide +kernel
theorem dX1_flood_79 : decode cX1_flood 79 = .ok (.goto (-73), 3) := by decide +kernel
theorem dX1_flood_82 : decode cX1_flood 82 = .ok (.aload_n 0, 1) := by decide +kernel
theorem dX1_flood_83 : decode cX1_flood 83 = .ok (.getfield 24, 3) := by decide +kernel
theorem dX1_flood_86 : decode cX1_flood 86 = .ok (.ireturn, 1) := by decide +kernel
theorem dX1_sceneAt_0 : decode cX1_sceneAt 0 = .ok (.iload_n 1, 1) := by decide +kernel
theorem dX1_sceneAt_1 : decode cX1_sceneAt 1 = .ok (.ifCond .lt 20, 3) := by decide +kernel
theorem dX1_sceneAt_4 : decode cX1_sceneAt 4 = .ok (.iload_n 1, 1) := by decide +kernel
theorem dX1_sceneAt_5 : decode cX1_sceneAt 5 = .ok (.aload_n 0, 1) := by decide +kernel
theorem dX1_sceneAt_6 : decode cX1_sceneAt 6 = .ok (.getfield 24, 3) := by decide +kernel
theorem dX1_sceneAt_9 : decode cX1_sceneAt 9 = .ok (.if_icmp .ge 12, 3) := by decide +kernel
theorem dX1_sceneAt_12 : decode cX1_sceneAt 12 = .ok (.aload_n 0, 1) := by decide +kernel
theorem dX1_sceneAt_13 : decode cX1_sceneAt 13 = .ok (.getfield 21, 3) := by decide +kernel
theorem dX1_sceneAt_16 : decode cX1_sceneAt 16 = .ok (.iload_n 1, 1) := by decide +kernel
theorem dX1_sceneAt_17 : decode cX1_sceneAt 17 = .ok (.iaload, 1) := by decide +kernel
theorem dX1_sceneAt_18 : decode cX1_sceneAt 18 = .ok (.goto 4, 3) := by decide +kernel
theorem dX1_sceneAt_21 : decode cX1_sceneAt 21 = .ok (.iconst (-1), 1) := by decide +kernel
theorem dX1_sceneAt_22 : decode cX1_sceneAt 22 = .ok (.ireturn, 1) := by decide +kernel
theorem dX1_startLine_0 : decode cX1_startLine 0 = .ok (.aload_n 0, 1) := by decide +kernel
theorem dX1_startLine_1 : decode cX1_startLine 1 = .ok (.getfield 37, 3) := by decide +kernel
theorem dX1_startLine_4 : decode cX1_startLine 4 = .ok (.invokevirtual 75, 3) := by decide +kernel
theorem dX1_startLine_7 : decode cX1_startLine 7 = .ok (.ifCond .eq 8, 3) := by decide +kernel
theorem dX1_startLine_10 : decode cX1_startLine 10 = .ok (.ldc 79, 2) := by decide +kernel
theorem dX1_startLine_12 : decode cX1_startLine 12 = .ok (.goto 6, 3) := by decide +kernel
theorem dX1_startLine_15 : decode cX1_startLine 15 = .ok (.sipush 4096, 3) := by decide +kernel
theorem dX1_startLine_18 : decode cX1_startLine 18 = .ok (.istore_n 1, 1) := by decide +kernel
theorem dX1_startLine_19 : decode cX1_startLine 19 = .ok (.aload_n 0, 1) := by decide +kernel
theorem dX1_startLine_20 : decode cX1_startLine 20 = .ok (.getfield 18, 3) := by decide +kernel
theorem dX1_startLine_23 : decode cX1_startLine 23 = .ok (.arraylength, 1) := by decide +kernel
theorem dX1_startLine_24 : decode cX1_startLine 24 = .ok (.iload_n 1, 1) := by decide +kernel
theorem dX1_startLine_25 : decode cX1_startLine 25 = .ok (.if_icmp .ge 17, 3) := by decide +kernel
theorem dX1_startLine_28 : decode cX1_startLine 28 = .ok (.aload_n 0, 1) := by decide +kernel
theorem dX1_startLine_29 : decode cX1_startLine 29 = .ok (.iload_n 1, 1) := by decide +kernel
theorem dX1_startLine_30 : decode cX1_startLine 30 = .ok (.newarray .int, 2) := by decide +kernel
theorem dX1_startLine_32 : decode cX1_startLine 32 = .ok (.putfield 18, 3) := by decide +kernel
theorem dX1_startLine_35 : decode cX1_startLine 35 = .ok (.aload_n 0, 1) := by decide +kernel
theorem dX1_startLine_36 : decode cX1_startLine 36 = .ok (.iload_n 1, 1) := by decide +kernel
theorem dX1_startLine_37 : decode cX1_startLine 37 = .ok (.newarray .int, 2) := by decide +kernel
theorem dX1_startLine_39 : decode cX1_startLine 39 = .ok (.putfield 21, 3) := by decide +kernel
theorem dX1_startLine_42 : decode cX1_startLine 42 = .ok (.aload_n 0, 1) := by decide +kernel
theorem dX1_startLine_43 : decode cX1_startLine 43 = .ok (.getfield 18, 3) := by decide +kernel
theorem dX1_startLine_46 : decode cX1_startLine 46 = .ok (.iconst (-1), 1) := by decide +kernel
theorem dX1_startLine_47 : decode cX1_startLine 47 = .ok (.invokestatic 41, 3) := by decide +kernel
theorem dX1_startLine_50 : decode cX1_startLine 50 = .ok (.aload_n 0, 1) := by decide +kernel
theorem dX1_startLine_51 : decode cX1_startLine 51 = .ok (.iconst (-1), 1) := by decide +kernel
theorem dX1_startLine_52 : decode cX1_startLine 52 = .ok (.putfield 31, 3) := by decide +kernel
theorem dX1_startLine_55 : decode cX1_startLine 55 = .ok (.aload_n 0, 1) := by decide +kernel
theorem dX1_startLine_56 : decode cX1_startLine 56 = .ok (.iconst (-1), 1) := by decide +kernel
theorem dX1_startLine_57 : decode cX1_startLine 57 = .ok (.putfield 34, 3) := by decide +kernel
theorem dX1_startLine_60 : decode cX1_startLine 60 = .ok (.aload_n 0, 1) := by decide +kernel
theorem dX1_startLine_61 : decode cX1_startLine 61 = .ok (.iconst 0, 1) := by decide +kernel
theorem dX1_startLine_62 : decode cX1_startLine 62 = .ok (.putfield 24, 3) := by decide +kernel
theorem dX1_startLine_65 : decode cX1_startLine 65 = .ok (.aload_n 0, 1) := by decide +kernel
theorem dX1_startLine_66 : decode cX1_startLine 66 = .ok (.iconst 0, 1) := by decide +kernel
theorem dX1_startLine_67 : decode cX1_startLine 67 = .ok (.iconst 0, 1) := by decide +kernel
theorem dX1_startLine_68 : decode cX1_startLine 68 = .ok (.invokevirtual 71, 3) := by decide +kernel
theorem dX1_startLine_71 : decode cX1_startLine 71 = .ok (.return_, 1) := by decide +kernel
theorem dX1_join_0 : decode cX1_join 0 = .ok (.iload_n 1, 1) := by decide +kernel
theorem dX1_join_1 : decode cX1_join 1 = .ok (.ifCond .lt 24, 3) := by decide +kernel
theorem dX1_join_4 : decode cX1_join 4 = .ok (.iload_n 1, 1) := by decide +kernel
theorem dX1_join_5 : decode cX1_join 5 = .ok (.aload_n 0, 1) := by decide +kernel
theorem dX1_join_6 : decode cX1_join 6 = .ok (.getfield 18, 3) := by decide +kernel
theorem dX1_join_9 : decode cX1_join 9 = .ok (.arraylength, 1) := by decide +kernel
theorem dX1_join_10 : decode cX1_join 10 = .ok (.if_icmp .ge 15, 3) := by decide +kernel
theorem dX1_join_13 : decode cX1_join 13 = .ok (.aload_n 0, 1) := by decide +kernel
theorem dX1_join_14 : decode cX1_join 14 = .ok (.getfield 24, 3) := by decide +kernel
theorem dX1_join_17 : decode cX1_join 17 = .ok (.aload_n 0, 1) := by decide +kernel
theorem dX1_join_18 : decode cX1_join 18 = .ok (.getfield 21, 3) := by decide +kernel
theorem dX1_join_21 : decode cX1_join 21 = .ok (.arraylength, 1) := by decide +kernel
theorem dX1_join_22 : decode cX1_join 22 = .ok (.if_icmp .lt 4, 3) := by decide +kernel
theorem dX1_join_25 : decode cX1_join 25 = .ok (.return_, 1) := by decide +kernel
theorem dX1_join_26 : decode cX1_join 26 = .ok (.aload_n 0, 1) := by decide +kernel
theorem dX1_join_27 : decode cX1_join 27 = .ok (.getfield 18, 3) := by decide +kernel
theorem dX1_join_30 : decode cX1_join 30 = .ok (.iload_n 1, 1) := by decide +kernel
theorem dX1_join_31 : decode cX1_join 31 = .ok (.iaload, 1) := by decide +kernel
theorem dX1_join_32 : decode cX1_join 32 = .ok (.iconst (-1), 1) := by decide +kernel
theorem dX1_join_33 : decode cX1_join 33 = .ok (.if_icmp .ne 27, 3) := by decide +kernel
theorem dX1_join_36 : decode cX1_join 36 = .ok (.aload_n 0, 1) := by decide +kernel
theorem dX1_join_37 : decode cX1_join 37 = .ok (.getfield 18, 3) := by decide +kernel
theorem dX1_join_40 : decode cX1_join 40 = .ok (.iload_n 1, 1) := by decide +kernel
theorem dX1_join_41 : decode cX1_join 41 = .ok (.iload_n 2, 1) := by decide +kernel
theorem dX1_join_42 : decode cX1_join 42 = .ok (.iastore, 1) := by decide +kernel
theorem dX1_join_43 : decode cX1_join 43 = .ok (.aload_n 0, 1) := by decide +kernel
theorem dX1_join_44 : decode cX1_join 44 = .ok (.getfield 21, 3) := by decide +kernel
theorem dX1_join_47 : decode cX1_join 47 = .ok (.aload_n 0, 1) := by decide +kernel
theorem dX1_join_48 : decode cX1_join 48 = .ok (.dup, 1) := by decide +kernel
theorem dX1_join_49 : decode cX1_join 49 = .ok (.getfield 24, 3) := by decide +kernel
theorem dX1_join_52 : decode cX1_join 52 = .ok (.dup_x1, 1) := by decide +kernel
theorem dX1_join_53 : decode cX1_join 53 = .ok (.iconst 1, 1) := by decide +kernel
theorem dX1_join_54 : decode cX1_join 54 = .ok (.iadd, 1) := by decide +kernel
theorem dX1_join_55 : decode cX1_join 55 = .ok (.putfield 24, 3) := by decide +kernel
theorem dX1_join_58 : decode cX1_join 58 = .ok (.iload_n 1, 1) := by decide +kernel
theorem dX1_join_59 : decode cX1_join 59 = .ok (.iastore, 1) := by decide +kernel
theorem dX1_join_60 : decode cX1_join 60 = .ok (.return_, 1) := by decide +kernel
theorem dX1_explore_0 : decode cX1_explore 0 = .ok (.aload_n 0, 1) := by decide +kernel
theorem dX1_explore_1 : decode cX1_explore 1 = .ok (.invokevirtual 62, 3) := by decide +kernel
theorem dX1_explore_4 : decode cX1_explore 4 = .ok (.aload_n 0, 1) := by decide +kernel
theorem dX1_explore_5 : decode cX1_explore 5 = .ok (.aload_n 0, 1) := by decide +kernel
theorem dX1_explore_6 : decode cX1_explore 6 = .ok (.getfield 37, 3) := by decide +kernel
theorem dX1_explore_9 : decode cX1_explore 9 = .ok (.iconst 0, 1) := by decide +kernel
theorem dX1_explore_10 : decode cX1_explore 10 = .ok (.invokevirtual 80, 3) := by decide +kernel
theorem dX1_explore_13 : decode cX1_explore 13 = .ok (.ifCond .eq 7, 3) := by decide +kernel
theorem dX1_explore_16 : decode cX1_explore 16 = .ok (.iconst 0, 1) := by decide +kernel
theorem dX1_explore_17 : decode cX1_explore 17 = .ok (.goto 4, 3) := by decide +kernel
theorem dX1_explore_20 : decode cX1_explore 20 = .ok (.iconst (-1), 1) := by decide +kernel
theorem dX1_explore_21 : decode cX1_explore 21 = .ok (.putfield 28, 3) := by decide +kernel
theorem dX1_explore_24 : decode cX1_explore 24 = .ok (.iconst 0, 1) := by decide +kernel
theorem dX1_explore_25 : decode cX1_explore 25 = .ok (.istore_n 2, 1) := by decide +kernel
theorem dX1_explore_26 : decode cX1_explore 26 = .ok (.iconst 0, 1) := by decide +kernel
theorem dX1_explore_27 : decode cX1_explore 27 = .ok (.istore_n 3, 1) := by decide +kernel
theorem dX1_explore_28 : decode cX1_explore 28 = .ok (.iconst 0, 1) := by decide +kernel
theorem dX1_explore_29 : decode cX1_explore 29 = .ok (.istore 4, 2) := by decide +kernel
theorem dX1_explore_31 : decode cX1_explore 31 = .ok (.iload 4, 2) := by decide +kernel
theorem dX1_explore_33 : decode cX1_explore 33 = .ok (.ldc 84, 2) := by decide +kernel
theorem dX1_explore_35 : decode cX1_explore 35 = .ok (.if_icmp .ge 147, 3) := by decide +kernel
theorem dX1_explore_38 : decode cX1_explore 38 = .ok (.iload_n 2, 1) := by decide +kernel
theorem dX1_explore_39 : decode cX1_explore 39 = .ok (.aload_n 0, 1) := by decide +kernel
theorem dX1_explore_40 : decode cX1_explore 40 = .ok (.getfield 24, 3) := by decide +kernel
theorem dX1_explore_43 : decode cX1_explore 43 = .ok (.if_icmp .ge 20, 3) := by decide +kernel
theorem dX1_explore_46 : decode cX1_explore 46 = .ok (.aload_n 0, 1) := by decide +kernel
theorem dX1_explore_47 : decode cX1_explore 47 = .ok (.getfield 18, 3) := by decide +kernel
theorem dX1_explore_50 : decode cX1_explore 50 = .ok (.aload_n 0, 1) := by decide +kernel
theorem dX1_explore_51 : decode cX1_explore 51 = .ok (.getfield 21, 3) := by decide +kernel
theorem dX1_explore_54 : decode cX1_explore 54 = .ok (.iload_n 2, 1) := by decide +kernel
theorem dX1_explore_55 : decode cX1_explore 55 = .ok (.iaload, 1) := by decide +kernel
theorem dX1_explore_56 : decode cX1_explore 56 = .ok (.iaload, 1) := by decide +kernel
theorem dX1_explore_57 : decode cX1_explore 57 = .ok (.ldc 85, 2) := by decide +kernel
theorem dX1_explore_59 : decode cX1_explore 59 = .ok (.iadd, 1) := by decide +kernel
theorem dX1_explore_60 : decode cX1_explore 60 = .ok (.goto 5, 3) := by decide +kernel
theorem dX1_explore_63 : decode cX1_explore 63 = .ok (.ldc 86, 2) := by decide +kernel
theorem dX1_explore_65 : decode cX1_explore 65 = .ok (.istore 5, 2) := by decide +kernel
theorem dX1_explore_67 : decode cX1_explore 67 = .ok (.iload_n 3, 1) := by decide +kernel
theorem dX1_explore_68 : decode cX1_explore 68 = .ok (.aload_n 0, 1) := by decide +kernel
theorem dX1_explore_69 : decode cX1_explore 69 = .ok (.getfield 24, 3) := by decide +kernel
theorem dX1_explore_72 : decode cX1_explore 72 = .ok (.if_icmp .ge 19, 3) := by decide +kernel
theorem dX1_explore_75 : decode cX1_explore 75 = .ok (.aload_n 0, 1) := by decide +kernel
theorem dX1_explore_76 : decode cX1_explore 76 = .ok (.getfield 18, 3) := by decide +kernel
theorem dX1_explore_79 : decode cX1_explore 79 = .ok (.aload_n 0, 1) := by decide +kernel
theorem dX1_explore_80 : decode cX1_explore 80 = .ok (.getfield 21, 3) := by decide +kernel
theorem dX1_explore_83 : decode cX1_explore 83 = .ok (.iload_n 3, 1) := by decide +kernel
theorem dX1_explore_84 : decode cX1_explore 84 = .ok (.iaload, 1) := by decide +kernel
theorem dX1_explore_85 : decode cX1_explore 85 = .ok (.iaload, 1) := by decide +kernel
theorem dX1_explore_86 : decode cX1_explore 86 = .ok (.iconst 1, 1) := by decide +kernel
theorem dX1_explore_87 : decode cX1_explore 87 = .ok (.iadd, 1) := by decide +kernel
theorem dX1_explore_88 : decode cX1_explore 88 = .ok (.goto 5, 3) := by decide +kernel
theorem dX1_explore_91 : decode cX1_explore 91 = .ok (.ldc 86, 2) := by decide +kernel
theorem dX1_explore_93 : decode cX1_explore 93 = .ok (.istore 6, 2) := by decide +kernel
theorem dX1_explore_95 : decode cX1_explore 95 = .ok (.iload 5, 2) := by decide +kernel
theorem dX1_explore_97 : decode cX1_explore 97 = .ok (.iload 6, 2) := by decide +kernel
theorem dX1_explore_99 : decode cX1_explore 99 = .ok (.invokestatic 87, 3) := by decide +kernel
theorem dX1_explore_102 : decode cX1_explore 102 = .ok (.istore 7, 2) := by decide +kernel
theorem dX1_explore_104 : decode cX1_explore 104 = .ok (.iload 7, 2) := by decide +kernel
theorem dX1_explore_106 : decode cX1_explore 106 = .ok (.ldc 86, 2) := by decide +kernel
theorem dX1_explore_108 : decode cX1_explore 108 = .ok (.if_icmp .eq 74, 3) := by decide +kernel
theorem dX1_explore_111 : decode cX1_explore 111 = .ok (.aload_n 0, 1) := by decide +kernel
theorem dX1_explore_112 : decode cX1_explore 112 = .ok (.getfield 28, 3) := by decide +kernel
theorem dX1_explore_115 : decode cX1_explore 115 = .ok (.iconst (-1), 1) := by decide +kernel
theorem dX1_explore_116 : decode cX1_explore 116 = .ok (.if_icmp .eq 15, 3) := by decide +kernel
theorem dX1_explore_119 : decode cX1_explore 119 = .ok (.iload 7, 2) := by decide +kernel
theorem dX1_explore_121 : decode cX1_explore 121 = .ok (.aload_n 0, 1) := by decide +kernel
theorem dX1_explore_122 : decode cX1_explore 122 = .ok (.getfield 28, 3) := by decide +kernel
theorem dX1_explore_125 : decode cX1_explore 125 = .ok (.if_icmp .le 6, 3) := by decide +kernel
theorem dX1_explore_128 : decode cX1_explore 128 = .ok (.goto 54, 3) := by decide +kernel
theorem dX1_explore_131 : decode cX1_explore 131 = .ok (.iload 5, 2) := by decide +kernel
theorem dX1_explore_133 : decode cX1_explore 133 = .ok (.iload 6, 2) := by decide +kernel
theorem dX1_explore_135 : decode cX1_explore 135 = .ok (.if_icmp .ge 23, 3) := by decide +kernel
theorem dX1_explore_138 : decode cX1_explore 138 = .ok (.aload_n 0, 1) := by decide +kernel
theorem dX1_explore_139 : decode cX1_explore 139 = .ok (.aload_n 0, 1) := by decide +kernel
theorem dX1_explore_140 : decode cX1_explore 140 = .ok (.getfield 21, 3) := by decide +kernel
theorem dX1_explore_143 : decode cX1_explore 143 = .ok (.iload_n 2, 1) := by decide +kernel
theorem dX1_explore_144 : decode cX1_explore 144 = .ok (.iinc 2 1, 3) := by decide +kernel
theorem dX1_explore_147 : decode cX1_explore 147 = .ok (.iaload, 1) := by decide +kernel
theorem dX1_explore_148 : decode cX1_explore 148 = .ok (.iconst 0, 1) := by decide +kernel
theorem dX1_explore_149 : decode cX1_explore 149 = .ok (.iload 7, 2) := by decide +kernel
theorem dX1_explore_151 : decode cX1_explore 151 = .ok (.iload_n 1, 1) := by decide +kernel
theorem dX1_explore_152 : decode cX1_explore 152 = .ok (.invokevirtual 92, 3) := by decide +kernel
theorem dX1_explore_155 : decode cX1_explore 155 = .ok (.goto 21, 3) := by decide +kernel
theorem dX1_explore_158 : decode cX1_explore 158 = .ok (.aload_n 0, 1) := by decide +kernel
theorem dX1_explore_159 : decode cX1_explore 159 = .ok (.aload_n 0, 1) := by decide +kernel
theorem dX1_explore_160 : decode cX1_explore 160 = .ok (.getfield 21, 3) := by decide +kernel
theorem dX1_explore_163 : decode cX1_explore 163 = .ok (.iload_n 3, 1) := by decide +kernel
theorem dX1_explore_164 : decode cX1_explore 164 = .ok (.iinc 3 1, 3) := by decide +kernel
theorem dX1_explore_167 : decode cX1_explore 167 = .ok (.iaload, 1) := by decide +kernel
theorem dX1_explore_168 : decode cX1_explore 168 = .ok (.bipush 9, 2) := by decide +kernel
theorem dX1_explore_170 : decode cX1_explore 170 = .ok (.iload 7, 2) := by decide +kernel
theorem dX1_explore_172 : decode cX1_explore 172 = .ok (.iload_n 1, 1) := by decide +kernel
theorem dX1_explore_173 : decode cX1_explore 173 = .ok (.invokevirtual 92, 3) := by decide +kernel
theorem dX1_explore_176 : decode cX1_explore 176 = .ok (.iinc 4 1, 3) := by decide +kernel
theorem dX1_explore_179 : decode cX1_explore 179 = .ok (.goto (-148), 3) := by decide +kernel
theorem dX1_explore_182 : decode cX1_explore 182 = .ok (.aload_n 0, 1) := by decide +kernel
theorem dX1_explore_183 : decode cX1_explore 183 = .ok (.getfield 11, 3) := by decide +kernel
theorem dX1_explore_186 : decode cX1_explore 186 = .ok (.iload_n 1, 1) := by decide +kernel
theorem dX1_explore_187 : decode cX1_explore 187 = .ok (.aload_n 0, 1) := by decide +kernel
theorem dX1_explore_188 : decode cX1_explore 188 = .ok (.getfield 28, 3) := by decide +kernel
theorem dX1_explore_191 : decode cX1_explore 191 = .ok (.iconst (-1), 1) := by decide +kernel
theorem dX1_explore_192 : decode cX1_explore 192 = .ok (.if_icmp .ne 7, 3) := by decide +kernel
theorem dX1_explore_195 : decode cX1_explore 195 = .ok (.iconst (-1), 1) := by decide +kernel
theorem dX1_explore_196 : decode cX1_explore 196 = .ok (.goto 10, 3) := by decide +kernel
theorem dX1_explore_199 : decode cX1_explore 199 = .ok (.aload_n 0, 1) := by decide +kernel
theorem dX1_explore_200 : decode cX1_explore 200 = .ok (.getfield 28, 3) := by decide +kernel
theorem dX1_explore_203 : decode cX1_explore 203 = .ok (.bipush 16, 2) := by decide +kernel
theorem dX1_explore_205 : decode cX1_explore 205 = .ok (.ishr, 1) := by decide +kernel
theorem dX1_explore_206 : decode cX1_explore 206 = .ok (.iastore, 1) := by decide +kernel
theorem dX1_explore_207 : decode cX1_explore 207 = .ok (.aload_n 0, 1) := by decide +kernel
theorem dX1_explore_208 : decode cX1_explore 208 = .ok (.iload_n 1, 1) := by decide +kernel
theorem dX1_explore_209 : decode cX1_explore 209 = .ok (.putfield 31, 3) := by decide +kernel
theorem dX1_explore_212 : decode cX1_explore 212 = .ok (.return_, 1) := by decide +kernel
theorem dX1_spread_0 : decode cX1_spread 0 = .ok (.iconst 0, 1) := by decide +kernel
theorem dX1_spread_1 : decode cX1_spread 1 = .ok (.istore 5, 2) := by decide +kernel
theorem dX1_spread_3 : decode cX1_spread 3 = .ok (.iload 5, 2) := by decide +kernel
theorem dX1_spread_5 : decode cX1_spread 5 = .ok (.aload_n 0, 1) := by decide +kernel
theorem dX1_spread_6 : decode cX1_spread 6 = .ok (.getfield 37, 3) := by decide +kernel
theorem dX1_spread_9 : decode cX1_spread 9 = .ok (.getfield 96, 3) := by decide +kernel
theorem dX1_spread_12 : decode cX1_spread 12 = .ok (.if_icmp .ge 63, 3) := by decide +kernel
theorem dX1_spread_15 : decode cX1_spread 15 = .ok (.aload_n 0, 1) := by decide +kernel
theorem dX1_spread_16 : decode cX1_spread 16 = .ok (.getfield 37, 3) := by decide +kernel
theorem dX1_spread_19 : decode cX1_spread 19 = .ok (.iload_n 1, 1) := by decide +kernel
theorem dX1_spread_20 : decode cX1_spread 20 = .ok (.iload_n 2, 1) := by decide +kernel
theorem dX1_spread_21 : decode cX1_spread 21 = .ok (.iload 5, 2) := by decide +kernel
theorem dX1_spread_23 : decode cX1_spread 23 = .ok (.iadd, 1) := by decide +kernel
theorem dX1_spread_24 : decode cX1_spread 24 = .ok (.iload 4, 2) := by decide +kernel
theorem dX1_spread_26 : decode cX1_spread 26 = .ok (.invokevirtual 65, 3) := by decide +kernel
theorem dX1_spread_29 : decode cX1_spread 29 = .ok (.istore 6, 2) := by decide +kernel
theorem dX1_spread_31 : decode cX1_spread 31 = .ok (.aload_n 0, 1) := by decide +kernel
theorem dX1_spread_32 : decode cX1_spread 32 = .ok (.iload 6, 2) := by decide +kernel
theorem dX1_spread_34 : decode cX1_spread 34 = .ok (.iload_n 3, 1) := by decide +kernel
theorem dX1_spread_35 : decode cX1_spread 35 = .ok (.invokevirtual 71, 3) := by decide +kernel
theorem dX1_spread_38 : decode cX1_spread 38 = .ok (.iload 6, 2) := by decide +kernel
theorem dX1_spread_40 : decode cX1_spread 40 = .ok (.iconst (-1), 1) := by decide +kernel
theorem dX1_spread_41 : decode cX1_spread 41 = .ok (.if_icmp .eq 28, 3) := by decide +kernel
theorem dX1_spread_44 : decode cX1_spread 44 = .ok (.aload_n 0, 1) := by decide +kernel
theorem dX1_spread_45 : decode cX1_spread 45 = .ok (.getfield 28, 3) := by decide +kernel
theorem dX1_spread_48 : decode cX1_spread 48 = .ok (.iconst (-1), 1) := by decide +kernel
theorem dX1_spread_49 : decode cX1_spread 49 = .ok (.if_icmp .ne 20, 3) := by decide +kernel
theorem dX1_spread_52 : decode cX1_spread 52 = .ok (.aload_n 0, 1) := by decide +kernel
theorem dX1_spread_53 : decode cX1_spread 53 = .ok (.getfield 37, 3) := by decide +kernel
theorem dX1_spread_56 : decode cX1_spread 56 = .ok (.iload 6, 2) := by decide +kernel
theorem dX1_spread_58 : decode cX1_spread 58 = .ok (.invokevirtual 80, 3) := by decide +kernel
theorem dX1_spread_61 : decode cX1_spread 61 = .ok (.ifCond .eq 8, 3) := by decide +kernel
theorem dX1_spread_64 : decode cX1_spread 64 = .ok (.aload_n 0, 1) := by decide +kernel
theorem dX1_spread_65 : decode cX1_spread 65 = .ok (.iload_n 3, 1) := by decide +kernel
theorem dX1_spread_66 : decode cX1_spread 66 = .ok (.putfield 28, 3) := by decide +kernel
theorem dX1_spread_69 : decode cX1_spread 69 = .ok (.iinc 5 1, 3) := by decide +kernel
theorem dX1_spread_72 : decode cX1_spread 72 = .ok (.goto (-69), 3) := by decide +kernel
theorem dX1_spread_75 : decode cX1_spread 75 = .ok (.return_, 1) := by decide +kernel
theorem dX1_dropDetours_0 : decode cX1_dropDetours 0 = .ok (.aload_n 0, 1) := by decide +kernel
theorem dX1_dropDetours_1 : decode cX1_dropDetours 1 = .ok (.getfield 24, 3) := by decide +kernel
theorem dX1_dropDetours_4 : decode cX1_dropDetours 4 = .ok (.iconst 1, 1) := by decide +kernel
theorem dX1_dropDetours_5 : decode cX1_dropDetours 5 = .ok (.isub, 1) := by decide +kernel
theorem dX1_dropDetours_6 : decode cX1_dropDetours 6 = .ok (.istore_n 2, 1) := by decide +kernel
theorem dX1_dropDetours_7 : decode cX1_dropDetours 7 = .ok (.iload_n 2, 1) := by decide +kernel
theorem dX1_dropDetours_8 : decode cX1_dropDetours 8 = .ok (.ifCond .lt 69, 3) := by decide +kernel
theorem dX1_dropDetours_11 : decode cX1_dropDetours 11 = .ok (.aload_n 0, 1) := by decide +kernel
theorem dX1_dropDetours_12 : decode cX1_dropDetours 12 = .ok (.getfield 21, 3) := by decide +kernel
theorem dX1_dropDetours_15 : decode cX1_dropDetours 15 = .ok (.iload_n 2, 1) := by decide +kernel
theorem dX1_dropDetours_16 : decode cX1_dropDetours 16 = .ok (.iaload, 1) := by decide +kernel
theorem dX1_dropDetours_17 : decode cX1_dropDetours 17 = .ok (.istore_n 3, 1) := by decide +kernel
theorem dX1_dropDetours_18 : decode cX1_dropDetours 18 = .ok (.aload_n 0, 1) := by decide +kernel
theorem dX1_dropDetours_19 : decode cX1_dropDetours 19 = .ok (.getfield 18, 3) := by decide +kernel
theorem dX1_dropDetours_22 : decode cX1_dropDetours 22 = .ok (.iload_n 3, 1) := by decide +kernel
theorem dX1_dropDetours_23 : decode cX1_dropDetours 23 = .ok (.iaload, 1) := by decide +kernel
theorem dX1_dropDetours_24 : decode cX1_dropDetours 24 = .ok (.aload_n 0, 1) := by decide +kernel
theorem dX1_dropDetours_25 : decode cX1_dropDetours 25 = .ok (.getfield 28, 3) := by decide +kernel
theorem dX1_dropDetours_28 : decode cX1_dropDetours 28 = .ok (.if_icmp .ne 18, 3) := by decide +kernel
theorem dX1_dropDetours_31 : decode cX1_dropDetours 31 = .ok (.aload_n 0, 1) := by decide +kernel
theorem dX1_dropDetours_32 : decode cX1_dropDetours 32 = .ok (.getfield 37, 3) := by decide +kernel
theorem dX1_dropDetours_35 : decode cX1_dropDetours 35 = .ok (.iload_n 3, 1) := by decide +kernel
theorem dX1_dropDetours_36 : decode cX1_dropDetours 36 = .ok (.invokevirtual 80, 3) := by decide +kernel
theorem dX1_dropDetours_39 : decode cX1_dropDetours 39 = .ok (.ifCond .eq 7, 3) := by decide +kernel
theorem dX1_dropDetours_42 : decode cX1_dropDetours 42 = .ok (.iconst 1, 1) := by decide +kernel
theorem dX1_dropDetours_43 : decode cX1_dropDetours 43 = .ok (.goto 4, 3) := by decide +kernel
theorem dX1_dropDetours_46 : decode cX1_dropDetours 46 = .ok (.iconst 0, 1) := by decide +kernel
theorem dX1_dropDetours_47 : decode cX1_dropDetours 47 = .ok (.istore 4, 2) := by decide +kernel
theorem dX1_dropDetours_49 : decode cX1_dropDetours 49 = .ok (.iload 4, 2) := by decide +kernel
theorem dX1_dropDetours_51 : decode cX1_dropDetours 51 = .ok (.ifCond .ne 20, 3) := by decide +kernel
theorem dX1_dropDetours_54 : decode cX1_dropDetours 54 = .ok (.aload_n 0, 1) := by decide +kernel
theorem dX1_dropDetours_55 : decode cX1_dropDetours 55 = .ok (.iload_n 3, 1) := by decide +kernel
theorem dX1_dropDetours_56 : decode cX1_dropDetours 56 = .ok (.iload_n 1, 1) := by decide +kernel
theorem dX1_dropDetours_57 : decode cX1_dropDetours 57 = .ok (.invokevirtual 99, 3) := by decide +kernel
theorem dX1_dropDetours_60 : decode cX1_dropDetours 60 = .ok (.iconst (-1), 1) := by decide +kernel
theorem dX1_dropDetours_61 : decode cX1_dropDetours 61 = .ok (.if_icmp .ne 10, 3) := by decide +kernel
theorem dX1_dropDetours_64 : decode cX1_dropDetours 64 = .ok (.aload_n 0, 1) := by decide +kernel
theorem dX1_dropDetours_65 : decode cX1_dropDetours 65 = .ok (.getfield 18, 3) := by decide +kernel
theorem dX1_dropDetours_68 : decode cX1_dropDetours 68 = .ok (.iload_n 3, 1) := by decide +kernel
theorem dX1_dropDetours_69 : decode cX1_dropDetours 69 = .ok (.iconst (-1), 1) := by decide +kernel
theorem dX1_dropDetours_70 : decode cX1_dropDetours 70 = .ok (.iastore, 1) := by decide +kernel
theorem dX1_dropDetours_71 : decode cX1_dropDetours 71 = .ok (.iinc 2 (-1), 3) := by decide +kernel
theorem dX1_dropDetours_74 : decode cX1_dropDetours 74 = .ok (.goto (-67), 3) := by decide +kernel
theorem dX1_dropDetours_77 : decode cX1_dropDetours 77 = .ok (.return_, 1) := by decide +kernel
theorem dX1_firstActOn_0 : decode cX1_firstActOn 0 = .ok (.iconst 0, 1) := by decide +kernel
theorem dX1_firstActOn_1 : decode cX1_firstActOn 1 = .ok (.istore_n 3, 1) := by decide +kernel
theorem dX1_firstActOn_2 : decode cX1_firstActOn 2 = .ok (.iload_n 3, 1) := by decide +kernel
theorem dX1_firstActOn_3 : decode cX1_firstActOn 3 = .ok (.bipush 18, 2) := by decide +kernel
theorem dX1_firstActOn_5 : decode cX1_firstActOn 5 = .ok (.if_icmp .ge 62, 3) := by decide +kernel
theorem dX1_firstActOn_8 : decode cX1_firstActOn 8 = .ok (.aload_n 0, 1) := by decide +kernel
theorem dX1_firstActOn_9 : decode cX1_firstActOn 9 = .ok (.getfield 37, 3) := by decide +kernel
theorem dX1_firstActOn_12 : decode cX1_firstActOn 12 = .ok (.iload_n 1, 1) := by decide +kernel
theorem dX1_firstActOn_13 : decode cX1_firstActOn 13 = .ok (.iload_n 3, 1) := by decide +kernel
theorem dX1_firstActOn_14 : decode cX1_firstActOn 14 = .ok (.iload_n 2, 1) := by decide +kernel
theorem dX1_firstActOn_15 : decode cX1_firstActOn 15 = .ok (.invokevirtual 65, 3) := by decide +kernel
theorem dX1_firstActOn_18 : decode cX1_firstActOn 18 = .ok (.istore 4, 2) := by decide +kernel
theorem dX1_firstActOn_20 : decode cX1_firstActOn 20 = .ok (.iload_n 3, 1) := by decide +kernel
theorem dX1_firstActOn_21 : decode cX1_firstActOn 21 = .ok (.bipush 9, 2) := by decide +kernel
theorem dX1_firstActOn_23 : decode cX1_firstActOn 23 = .ok (.if_icmp .ge 8, 3) := by decide +kernel
theorem dX1_firstActOn_26 : decode cX1_firstActOn 26 = .ok (.ldc 85, 2) := by decide +kernel
theorem dX1_firstActOn_28 : decode cX1_firstActOn 28 = .ok (.goto 4, 3) := by decide +kernel
theorem dX1_firstActOn_31 : decode cX1_firstActOn 31 = .ok (.iconst 1, 1) := by decide +kernel
theorem dX1_firstActOn_32 : decode cX1_firstActOn 32 = .ok (.istore 5, 2) := by decide +kernel
theorem dX1_firstActOn_34 : decode cX1_firstActOn 34 = .ok (.iload 4, 2) := by decide +kernel
theorem dX1_firstActOn_36 : decode cX1_firstActOn 36 = .ok (.iconst (-1), 1) := by decide +kernel
theorem dX1_firstActOn_37 : decode cX1_firstActOn 37 = .ok (.if_icmp .eq 24, 3) := by decide +kernel
theorem dX1_firstActOn_40 : decode cX1_firstActOn 40 = .ok (.aload_n 0, 1) := by decide +kernel
theorem dX1_firstActOn_41 : decode cX1_firstActOn 41 = .ok (.getfield 18, 3) := by decide +kernel
theorem dX1_firstActOn_44 : decode cX1_firstActOn 44 = .ok (.iload 4, 2) := by decide +kernel
theorem dX1_firstActOn_46 : decode cX1_firstActOn 46 = .ok (.iaload, 1) := by decide +kernel
theorem dX1_firstActOn_47 : decode cX1_firstActOn 47 = .ok (.aload_n 0, 1) := by decide +kernel
theorem dX1_firstActOn_48 : decode cX1_firstActOn 48 = .ok (.getfield 18, 3) := by decide +kernel
theorem dX1_firstActOn_51 : decode cX1_firstActOn 51 = .ok (.iload_n 1, 1) := by decide +kernel
theorem dX1_firstActOn_52 : decode cX1_firstActOn 52 = .ok (.iaload, 1) := by decide +kernel
theorem dX1_firstActOn_53 : decode cX1_firstActOn 53 = .ok (.iload 5, 2) := by decide +kernel
theorem dX1_firstActOn_55 : decode cX1_firstActOn 55 = .ok (.iadd, 1) := by decide +kernel
theorem dX1_firstActOn_56 : decode cX1_firstActOn 56 = .ok (.if_icmp .ne 5, 3) := by decide +kernel
theorem dX1_firstActOn_59 : decode cX1_firstActOn 59 = .ok (.iload_n 3, 1) := by decide +kernel
theorem dX1_firstActOn_60 : decode cX1_firstActOn 60 = .ok (.ireturn, 1) := by decide +kernel
theorem dX1_firstActOn_61 : decode cX1_firstActOn 61 = .ok (.iinc 3 1, 3) := by decide +kernel
theorem dX1_firstActOn_64 : decode cX1_firstActOn 64 = .ok (.goto (-62), 3) := by decide +kernel
theorem dX1_firstActOn_67 : decode cX1_firstActOn 67 = .ok (.iconst (-1), 1) := by decide +kernel
theorem dX1_firstActOn_68 : decode cX1_firstActOn 68 = .ok (.ireturn, 1) := by decide +kernel
theorem dX1_writePlan_0 : decode cX1_writePlan 0 = .ok (.iconst 0, 1) := by decide +kernel
theorem dX1_writePlan_1 : decode cX1_writePlan 1 = .ok (.istore_n 2, 1) := by decide +kernel
theorem dX1_writePlan_2 : decode cX1_writePlan 2 = .ok (.aload_n 0, 1) := by decide +kernel
theorem dX1_writePlan_3 : decode cX1_writePlan 3 = .ok (.getfield 28, 3) := by decide +kernel
theorem dX1_writePlan_6 : decode cX1_writePlan 6 = .ok (.ldc 57, 2) := by decide +kernel
theorem dX1_writePlan_8 : decode cX1_writePlan 8 = .ok (.iand, 1) := by decide +kernel
theorem dX1_writePlan_9 : decode cX1_writePlan 9 = .ok (.istore_n 3, 1) := by decide +kernel
theorem dX1_writePlan_10 : decode cX1_writePlan 10 = .ok (.iconst 0, 1) := by decide +kernel
theorem dX1_writePlan_11 : decode cX1_writePlan 11 = .ok (.istore 4, 2) := by decide +kernel
theorem dX1_writePlan_13 : decode cX1_writePlan 13 = .ok (.iload 4, 2) := by decide +kernel
theorem dX1_writePlan_15 : decode cX1_writePlan 15 = .ok (.iload_n 3, 1) := by decide +kernel
theorem dX1_writePlan_16 : decode cX1_writePlan 16 = .ok (.if_icmp .ge 57, 3) := by decide +kernel
theorem dX1_writePlan_19 : decode cX1_writePlan 19 = .ok (.iload 4, 2) := by decide +kernel
theorem dX1_writePlan_21 : decode cX1_writePlan 21 = .ok (.aload_n 0, 1) := by decide +kernel
theorem dX1_writePlan_22 : decode cX1_writePlan 22 = .ok (.getfield 21, 3) := by decide +kernel
theorem dX1_writePlan_25 : decode cX1_writePlan 25 = .ok (.arraylength, 1) := by decide +kernel
theorem dX1_writePlan_26 : decode cX1_writePlan 26 = .ok (.if_icmp .ge 47, 3) := by decide +kernel
theorem dX1_writePlan_29 : decode cX1_writePlan 29 = .ok (.aload_n 0, 1) := by decide +kernel
theorem dX1_writePlan_30 : decode cX1_writePlan 30 = .ok (.iload_n 2, 1) := by decide +kernel
theorem dX1_writePlan_31 : decode cX1_writePlan 31 = .ok (.iload_n 1, 1) := by decide +kernel
theorem dX1_writePlan_32 : decode cX1_writePlan 32 = .ok (.invokevirtual 99, 3) := by decide +kernel
theorem dX1_writePlan_35 : decode cX1_writePlan 35 = .ok (.istore 5, 2) := by decide +kernel
theorem dX1_writePlan_37 : decode cX1_writePlan 37 = .ok (.iload 5, 2) := by decide +kernel
theorem dX1_writePlan_39 : decode cX1_writePlan 39 = .ok (.iconst (-1), 1) := by decide +kernel
theorem dX1_writePlan_40 : decode cX1_writePlan 40 = .ok (.if_icmp .ne 6, 3) := by decide +kernel
theorem dX1_writePlan_43 : decode cX1_writePlan 43 = .ok (.goto 30, 3) := by decide +kernel
theorem dX1_writePlan_46 : decode cX1_writePlan 46 = .ok (.aload_n 0, 1) := by decide +kernel
theorem dX1_writePlan_47 : decode cX1_writePlan 47 = .ok (.getfield 21, 3) := by decide +kernel
theorem dX1_writePlan_50 : decode cX1_writePlan 50 = .ok (.iload 4, 2) := by decide +kernel
theorem dX1_writePlan_52 : decode cX1_writePlan 52 = .ok (.iload 5, 2) := by decide +kernel
theorem dX1_writePlan_54 : decode cX1_writePlan 54 = .ok (.iastore, 1) := by decide +kernel
theorem dX1_writePlan_55 : decode cX1_writePlan 55 = .ok (.aload_n 0, 1) := by decide +kernel
theorem dX1_writePlan_56 : decode cX1_writePlan 56 = .ok (.getfield 37, 3) := by decide +kernel
theorem dX1_writePlan_59 : decode cX1_writePlan 59 = .ok (.iload_n 2, 1) := by decide +kernel
theorem dX1_writePlan_60 : decode cX1_writePlan 60 = .ok (.iload 5, 2) := by decide +kernel
theorem dX1_writePlan_62 : decode cX1_writePlan 62 = .ok (.iload_n 1, 1) := by decide +kernel
theorem dX1_writePlan_63 : decode cX1_writePlan 63 = .ok (.invokevirtual 65, 3) := by decide +kernel
theorem dX1_writePlan_66 : decode cX1_writePlan 66 = .ok (.istore_n 2, 1) := by decide +kernel
theorem dX1_writePlan_67 : decode cX1_writePlan 67 = .ok (.iinc 4 1, 3) := by decide +kernel
theorem dX1_writePlan_70 : decode cX1_writePlan 70 = .ok (.goto (-57), 3) := by decide +kernel
theorem dX1_writePlan_73 : decode cX1_writePlan 73 = .ok (.return_, 1) := by decide +kernel
theorem dX2_init_0 : decode cX2_init 0 = .ok (.aload_n 0, 1) := by decide +kernel
theorem dX2_init_1 : decode cX2_init 1 = .ok (.invokespecial 3, 3) := by decide +kernel
theorem dX2_init_4 : decode cX2_init 4 = .ok (.aload_n 0, 1) := by decide +kernel
theorem dX2_init_5 : decode cX2_init 5 = .ok (.sipush 4096, 3) := by decide +kernel
theorem dX2_init_8 : decode cX2_init 8 = .ok (.newarray .byte, 2) := by decide +kernel
theorem dX2_init_10 : decode cX2_init 10 = .ok (.putfield 9, 3) := by decide +kernel
theorem dX2_init_13 : decode cX2_init 13 = .ok (.aload_n 0, 1) := by decide +kernel
theorem dX2_init_14 : decode cX2_init 14 = .ok (.iconst 0, 1) := by decide +kernel
theorem dX2_init_15 : decode cX2_init 15 = .ok (.putfield 15, 3) := by decide +kernel
theorem dX2_init_18 : decode cX2_init 18 = .ok (.aload_n 0, 1) := by decide +kernel
theorem dX2_init_19 : decode cX2_init 19 = .ok (.iconst (-1), 1) := by decide +kernel
theorem dX2_init_20 : decode cX2_init 20 = .ok (.putfield 19, 3) := by decide +kernel
theorem dX2_init_23 : decode cX2_init 23 = .ok (.aload_n 0, 1) := by decide +kernel
theorem dX2_init_24 : decode cX2_init 24 = .ok (.aload_n 1, 1) := by decide +kernel
theorem dX2_init_25 : decode cX2_init 25 = .ok (.putfield 22, 3) := by decide +kernel
theorem dX2_init_28 : decode cX2_init 28 = .ok (.aload_n 0, 1) := by decide +kernel
theorem dX2_init_29 : decode cX2_init 29 = .ok (.aload_n 2, 1) := by decide +kernel
theorem dX2_init_30 : decode cX2_init 30 = .ok (.putfield 26, 3) := by decide +kernel
theorem dX2_init_33 : decode cX2_init 33 = .ok (.return_, 1) := by decide +kernel
theorem dX2_turn_0 : decode cX2_turn 0 = .ok (.aload_n 0, 1) := by decide +kernel
theorem dX2_turn_1 : decode cX2_turn 1 = .ok (.getfield 9, 3) := by decide +kernel
theorem dX2_turn_4 : decode cX2_turn 4 = .ok (.iload_n 1, 1) := by decide +kernel
theorem dX2_turn_5 : decode cX2_turn 5 = .ok (.dup2, 1) := by decide +kernel
theorem dX2_turn_6 : decode cX2_turn 6 = .ok (.baload, 1) := by decide +kernel
theorem dX2_turn_7 : decode cX2_turn 7 = .ok (.iconst 1, 1) := by decide +kernel
theorem dX2_turn_8 : decode cX2_turn 8 = .ok (.ixor, 1) := by decide +kernel
theorem dX2_turn_9 : decode cX2_turn 9 = .ok (.i2b, 1) := by decide +kernel
theorem dX2_turn_10 : decode cX2_turn 10 = .ok (.bastore, 1) := by decide +kernel
theorem dX2_turn_11 : decode cX2_turn 11 = .ok (.aload_n 0, 1) := by decide +kernel
theorem dX2_turn_12 : decode cX2_turn 12 = .ok (.dup, 1) := by decide +kernel
theorem dX2_turn_13 : decode cX2_turn 13 = .ok (.getfield 15, 3) := by decide +kernel
theorem dX2_turn_16 : decode cX2_turn 16 = .ok (.aload_n 0, 1) := by decide +kernel
theorem dX2_turn_17 : decode cX2_turn 17 = .ok (.getfield 9, 3) := by decide +kernel
theorem dX2_turn_20 : decode cX2_turn 20 = .ok (.iload_n 1, 1) := by decide +kernel
theorem dX2_turn_21 : decode cX2_turn 21 = .ok (.baload, 1) := by decide +kernel
theorem dX2_turn_22 : decode cX2_turn 22 = .ok (.iconst 1, 1) := by decide +kernel
theorem dX2_turn_23 : decode cX2_turn 23 = .ok (.if_icmp .ne 7, 3) := by decide +kernel
theorem dX2_turn_26 : decode cX2_turn 26 = .ok (.iconst 1, 1) := by decide +kernel
theorem dX2_turn_27 : decode cX2_turn 27 = .ok (.goto 4, 3) := by decide +kernel
theorem dX2_turn_30 : decode cX2_turn 30 = .ok (.iconst (-1), 1) := by decide +kernel
theorem dX2_turn_31 : decode cX2_turn 31 = .ok (.iadd, 1) := by decide +kernel
theorem dX2_turn_32 : decode cX2_turn 32 = .ok (.putfield 15, 3) := by decide +kernel
theorem dX2_turn_35 : decode cX2_turn 35 = .ok (.aload_n 0, 1) := by decide +kernel
theorem dX2_turn_36 : decode cX2_turn 36 = .ok (.getfield 9, 3) := by decide +kernel
theorem dX2_turn_39 : decode cX2_turn 39 = .ok (.iload_n 1, 1) := by decide +kernel
theorem dX2_turn_40 : decode cX2_turn 40 = .ok (.baload, 1) := by decide +kernel
theorem dX2_turn_41 : decode cX2_turn 41 = .ok (.ireturn, 1) := by decide +kernel
theorem dX2_build_0 : decode cX2_build 0 = .ok (.aload_n 0, 1) := by decide +kernel
theorem dX2_build_1 : decode cX2_build 1 = .ok (.getfield 9, 3) := by decide +kernel
theorem dX2_build_4 : decode cX2_build 4 = .ok (.iconst 0, 1) := by decide +kernel
theorem dX2_build_5 : decode cX2_build 5 = .ok (.invokestatic 30, 3) := by decide +kernel
theorem dX2_build_8 : decode cX2_build 8 = .ok (.aload_n 0, 1) := by decide +kernel
theorem dX2_build_9 : decode cX2_build 9 = .ok (.iconst 0, 1) := by decide +kernel
theorem dX2_build_10 : decode cX2_build 10 = .ok (.putfield 15, 3) := by decide +kernel
theorem dX2_build_13 : decode cX2_build 13 = .ok (.aload_n 0, 1) := by decide +kernel
theorem dX2_build_14 : decode cX2_build 14 = .ok (.getfield 26, 3) := by decide +kernel
theorem dX2_build_17 : decode cX2_build 17 = .ok (.iload_n 1, 1) := by decide +kernel
theorem dX2_build_18 : decode cX2_build 18 = .ok (.sipush 4095, 3) := by decide +kernel
theorem dX2_build_21 : decode cX2_build 21 = .ok (.invokevirtual 36, 3) := by decide +kernel
theorem dX2_build_24 : decode cX2_build 24 = .ok (.istore_n 2, 1) := by decide +kernel
theorem dX2_build_25 : decode cX2_build 25 = .ok (.iconst 0, 1) := by decide +kernel
theorem dX2_build_26 : decode cX2_build 26 = .ok (.istore_n 3, 1) := by decide +kernel
theorem dX2_build_27 : decode cX2_build 27 = .ok (.iload_n 3, 1) := by decide +kernel
theorem dX2_build_28 : decode cX2_build 28 = .ok (.iload_n 2, 1) := by decide +kernel
theorem dX2_build_29 : decode cX2_build 29 = .ok (.if_icmp .ge 34, 3) := by decide +kernel
theorem dX2_build_32 : decode cX2_build 32 = .ok (.aload_n 0, 1) := by decide +kernel
theorem dX2_build_33 : decode cX2_build 33 = .ok (.getfield 26, 3) := by decide +kernel
theorem dX2_build_36 : decode cX2_build 36 = .ok (.iload_n 3, 1) := by decide +kernel
theorem dX2_build_37 : decode cX2_build 37 = .ok (.invokevirtual 42, 3) := by decide +kernel
theorem dX2_build_40 : decode cX2_build 40 = .ok (.istore 4, 2) := by decide +kernel
theorem dX2_build_42 : decode cX2_build 42 = .ok (.iload 4, 2) := by decide +kernel
theorem dX2_build_44 : decode cX2_build 44 = .ok (.invokestatic 46, 3) := by decide +kernel
theorem dX2_build_47 : decode cX2_build 47 = .ok (.ifCond .eq 10, 3) := by decide +kernel
theorem dX2_build_50 : decode cX2_build 50 = .ok (.aload_n 0, 1) := by decide +kernel
theorem dX2_build_51 : decode cX2_build 51 = .ok (.iload 4, 2) := by decide +kernel
theorem dX2_build_53 : decode cX2_build 53 = .ok (.invokevirtual 50, 3) := by decide +kernel
theorem dX2_build_56 : decode cX2_build 56 = .ok (.pop, 1) := by decide +kernel
theorem dX2_build_57 : decode cX2_build 57 = .ok (.iinc 3 1, 3) := by decide +kernel
theorem dX2_build_60 : decode cX2_build 60 = .ok (.goto (-33), 3) := by decide +kernel
theorem dX2_build_63 : decode cX2_build 63 = .ok (.aload_n 0, 1) := by decide +kernel
theorem dX2_build_64 : decode cX2_build 64 = .ok (.getfield 15, 3) := by decide +kernel
theorem dX2_build_67 : decode cX2_build 67 = .ok (.ireturn, 1) := by decide +kernel
theorem dX2_examine_0 : decode cX2_examine 0 = .ok (.aload_n 0, 1) := by decide +kernel
theorem dX2_examine_1 : decode cX2_examine 1 = .ok (.iconst 0, 1) := by decide +kernel
theorem dX2_examine_2 : decode cX2_examine 2 = .ok (.putfield 19, 3) := by decide +kernel
theorem dX2_examine_5 : decode cX2_examine 5 = .ok (.aload_n 0, 1) := by decide +kernel
theorem dX2_examine_6 : decode cX2_examine 6 = .ok (.getfield 9, 3) := by decide +kernel
theorem dX2_examine_9 : decode cX2_examine 9 = .ok (.iconst 0, 1) := by decide +kernel
theorem dX2_examine_10 : decode cX2_examine 10 = .ok (.baload, 1) := by decide +kernel
theorem dX2_examine_11 : decode cX2_examine 11 = .ok (.ifCond .ne 5, 3) := by decide +kernel
theorem dX2_examine_14 : decode cX2_examine 14 = .ok (.iconst 1, 1) := by decide +kernel
theorem dX2_examine_15 : decode cX2_examine 15 = .ok (.ireturn, 1) := by decide +kernel
theorem dX2_examine_16 : decode cX2_examine 16 = .ok (.iconst 0, 1) := by decide +kernel
theorem dX2_examine_17 : decode cX2_examine 17 = .ok (.istore_n 2, 1) := by decide +kernel
theorem dX2_examine_18 : decode cX2_examine 18 = .ok (.iload_n 2, 1) := by decide +kernel
theorem dX2_examine_19 : decode cX2_examine 19 = .ok (.sipush 4096, 3) := by decide +kernel
theorem dX2_examine_22 : decode cX2_examine 22 = .ok (.if_icmp .ge 41, 3) := by decide +kernel
theorem dX2_examine_25 : decode cX2_examine 25 = .ok (.aload_n 0, 1) := by decide +kernel
theorem dX2_examine_26 : decode cX2_examine 26 = .ok (.getfield 9, 3) := by decide +kernel
theorem dX2_examine_29 : decode cX2_examine 29 = .ok (.iload_n 2, 1) := by decide +kernel
theorem dX2_examine_30 : decode cX2_examine 30 = .ok (.baload, 1) := by decide +kernel
theorem dX2_examine_31 : decode cX2_examine 31 = .ok (.iconst 1, 1) := by decide +kernel
theorem dX2_examine_32 : decode cX2_examine 32 = .ok (.if_icmp .ne 12, 3) := by decide +kernel
theorem dX2_examine_35 : decode cX2_examine 35 = .ok (.aload_n 0, 1) := by decide +kernel
theorem dX2_examine_36 : decode cX2_examine 36 = .ok (.iload_n 2, 1) := by decide +kernel
theorem dX2_examine_37 : decode cX2_examine 37 = .ok (.iload_n 1, 1) := by decide +kernel
theorem dX2_examine_38 : decode cX2_examine 38 = .ok (.invokevirtual 53, 3) := by decide +kernel
theorem dX2_examine_41 : decode cX2_examine 41 = .ok (.goto 4, 3) := by decide +kernel
theorem dX2_examine_44 : decode cX2_examine 44 = .ok (.iconst 0, 1) := by decide +kernel
theorem dX2_examine_45 : decode cX2_examine 45 = .ok (.istore_n 3, 1) := by decide +kernel
theorem dX2_examine_46 : decode cX2_examine 46 = .ok (.iload_n 3, 1) := by decide +kernel
theorem dX2_examine_47 : decode cX2_examine 47 = .ok (.ifCond .eq 10, 3) := by decide +kernel
theorem dX2_examine_50 : decode cX2_examine 50 = .ok (.aload_n 0, 1) := by decide +kernel
theorem dX2_examine_51 : decode cX2_examine 51 = .ok (.iload_n 2, 1) := by decide +kernel
theorem dX2_examine_52 : decode cX2_examine 52 = .ok (.putfield 19, 3) := by decide +kernel
theorem dX2_examine_55 : decode cX2_examine 55 = .ok (.iload_n 3, 1) := by decide +kernel
theorem dX2_examine_56 : decode cX2_examine 56 = .ok (.ireturn, 1) := by decide +kernel
theorem dX2_examine_57 : decode cX2_examine 57 = .ok (.iinc 2 1, 3) := by decide +kernel
theorem dX2_examine_60 : decode cX2_examine 60 = .ok (.goto (-42), 3) := by decide +kernel
theorem dX2_examine_63 : decode cX2_examine 63 = .ok (.aload_n 0, 1) := by decide +kernel
theorem dX2_examine_64 : decode cX2_examine 64 = .ok (.iconst (-1), 1) := by decide +kernel
theorem dX2_examine_65 : decode cX2_examine 65 = .ok (.putfield 19, 3) := by decide +kernel
theorem dX2_examine_68 : decode cX2_examine 68 = .ok (.iconst 0, 1) := by decide +kernel
theorem dX2_examine_69 : decode cX2_examine 69 = .ok (.ireturn, 1) := by decide +kernel
theorem dX2_faultOf_0 : decode cX2_faultOf 0 = .ok (.aload_n 0, 1) := by decide +kernel
theorem dX2_faultOf_1 : decode cX2_faultOf 1 = .ok (.getfield 22, 3) := by decide +kernel
theorem dX2_faultOf_4 : decode cX2_faultOf 4 = .ok (.iload_n 1, 1) := by decide +kernel
theorem dX2_faultOf_5 : decode cX2_faultOf 5 = .ok (.invokevirtual 56, 3) := by decide +kernel
theorem dX2_faultOf_8 : decode cX2_faultOf 8 = .ok (.ifCond .eq 5, 3) := by decide +kernel
theorem dX2_faultOf_11 : decode cX2_faultOf 11 = .ok (.iconst 2, 1) := by decide +kernel
theorem dX2_faultOf_12 : decode cX2_faultOf 12 = .ok (.ireturn, 1) := by decide +kernel
theorem dX2_faultOf_13 : decode cX2_faultOf 13 = .ok (.aload_n 0, 1) := by decide +kernel
theorem dX2_faultOf_14 : decode cX2_faultOf 14 = .ok (.getfield 22, 3) := by decide +kernel
theorem dX2_faultOf_17 : decode cX2_faultOf 17 = .ok (.iload_n 1, 1) := by decide +kernel
theorem dX2_faultOf_18 : decode cX2_faultOf 18 = .ok (.invokevirtual 61, 3) := by decide +kernel
theorem dX2_faultOf_21 : decode cX2_faultOf 21 = .ok (.ifCond .ne 5, 3) := by decide +kernel
theorem dX2_faultOf_24 : decode cX2_faultOf 24 = .ok (.iconst 3, 1) := by decide +kernel
theorem dX2_faultOf_25 : decode cX2_faultOf 25 = .ok (.ireturn, 1) := by decide +kernel
theorem dX2_faultOf_26 : decode cX2_faultOf 26 = .ok (.iconst 0, 1) := by decide +kernel
theorem dX2_faultOf_27 : decode cX2_faultOf 27 = .ok (.istore_n 3, 1) := by decide +kernel
theorem dX2_faultOf_28 : decode cX2_faultOf 28 = .ok (.iload_n 3, 1) := by decide +kernel
theorem dX2_faultOf_29 : decode cX2_faultOf 29 = .ok (.bipush 18, 2) := by decide +kernel
theorem dX2_faultOf_31 : decode cX2_faultOf 31 = .ok (.if_icmp .ge 41, 3) := by decide +kernel
theorem dX2_faultOf_34 : decode cX2_faultOf 34 = .ok (.aload_n 0, 1) := by decide +kernel
theorem dX2_faultOf_35 : decode cX2_faultOf 35 = .ok (.getfield 22, 3) := by decide +kernel
theorem dX2_faultOf_38 : decode cX2_faultOf 38 = .ok (.iload_n 1, 1) := by decide +kernel
theorem dX2_faultOf_39 : decode cX2_faultOf 39 = .ok (.iload_n 3, 1) := by decide +kernel
theorem dX2_faultOf_40 : decode cX2_faultOf 40 = .ok (.iload_n 2, 1) := by decide +kernel
theorem dX2_faultOf_41 : decode cX2_faultOf 41 = .ok (.invokevirtual 64, 3) := by decide +kernel
theorem dX2_faultOf_44 : decode cX2_faultOf 44 = .ok (.istore 4, 2) := by decide +kernel
theorem dX2_faultOf_46 : decode cX2_faultOf 46 = .ok (.iload 4, 2) := by decide +kernel
theorem dX2_faultOf_48 : decode cX2_faultOf 48 = .ok (.invokestatic 46, 3) := by decide +kernel
theorem dX2_faultOf_51 : decode cX2_faultOf 51 = .ok (.ifCond .eq 15, 3) := by decide +kernel
theorem dX2_faultOf_54 : decode cX2_faultOf 54 = .ok (.aload_n 0, 1) := by decide +kernel
theorem dX2_faultOf_55 : decode cX2_faultOf 55 = .ok (.getfield 9, 3) := by decide +kernel
theorem dX2_faultOf_58 : decode cX2_faultOf 58 = .ok (.iload 4, 2) := by decide +kernel
theorem dX2_faultOf_60 : decode cX2_faultOf 60 = .ok (.baload, 1) := by decide +kernel
theorem dX2_faultOf_61 : decode cX2_faultOf 61 = .ok (.ifCond .ne 5, 3) := by decide +kernel
theorem dX2_faultOf_64 : decode cX2_faultOf 64 = .ok (.iconst 4, 1) := by decide +kernel
theorem dX2_faultOf_65 : decode cX2_faultOf 65 = .ok (.ireturn, 1) := by decide +kernel
theorem dX2_faultOf_66 : decode cX2_faultOf 66 = .ok (.iinc 3 1, 3) := by decide +kernel
theorem dX2_faultOf_69 : decode cX2_faultOf 69 = .ok (.goto (-41), 3) := by decide +kernel
theorem dX2_faultOf_72 : decode cX2_faultOf 72 = .ok (.iconst 0, 1) := by decide +kernel
theorem dX2_faultOf_73 : decode cX2_faultOf 73 = .ok (.ireturn, 1) := by decide +kernel
theorem dX3_init_0 : decode cX3_init 0 = .ok (.aload_n 0, 1) := by decide +kernel
theorem dX3_init_1 : decode cX3_init 1 = .ok (.invokespecial 3, 3) := by decide +kernel
theorem dX3_init_4 : decode cX3_init 4 = .ok (.aload_n 0, 1) := by decide +kernel
theorem dX3_init_5 : decode cX3_init 5 = .ok (.bipush 9, 2) := by decide +kernel
theorem dX3_init_7 : decode cX3_init 7 = .ok (.newarray .int, 2) := by decide +kernel
theorem dX3_init_9 : decode cX3_init 9 = .ok (.putfield 9, 3) := by decide +kernel
theorem dX3_init_12 : decode cX3_init 12 = .ok (.aload_n 0, 1) := by decide +kernel
theorem dX3_init_13 : decode cX3_init 13 = .ok (.bipush 9, 2) := by decide +kernel
theorem dX3_init_15 : decode cX3_init 15 = .ok (.newarray .int, 2) := by decide +kernel
theorem dX3_init_17 : decode cX3_init 17 = .ok (.putfield 15, 3) := by decide +kernel
theorem dX3_init_20 : decode cX3_init 20 = .ok (.aload_n 0, 1) := by decide +kernel
theorem dX3_init_21 : decode cX3_init 21 = .ok (.bipush 36, 2) := by decide +kernel
theorem dX3_init_23 : decode cX3_init 23 = .ok (.newarray .int, 2) := by decide +kernel
theorem dX3_init_25 : decode cX3_init 25 = .ok (.putfield 18, 3) := by decide +kernel
theorem dX3_init_28 : decode cX3_init 28 = .ok (.aload_n 0, 1) := by decide +kernel
theorem dX3_init_29 : decode cX3_init 29 = .ok (.getfield 9, 3) := by decide +kernel
theorem dX3_init_32 : decode cX3_init 32 = .ok (.iconst (-1), 1) := by decide +kernel
theorem dX3_init_33 : decode cX3_init 33 = .ok (.invokestatic 21, 3) := by decide +kernel
theorem dX3_init_36 : decode cX3_init 36 = .ok (.aload_n 0, 1) := by decide +kernel
theorem dX3_init_37 : decode cX3_init 37 = .ok (.getfield 15, 3) := by decide +kernel
theorem dX3_init_40 : decode cX3_init 40 = .ok (.iconst (-1), 1) := by decide +kernel
theorem dX3_init_41 : decode cX3_init 41 = .ok (.invokestatic 21, 3) := by decide +kernel
theorem dX3_init_44 : decode cX3_init 44 = .ok (.return_, 1) := by decide +kernel
theorem dX3_begin_0 : decode cX3_begin 0 = .ok (.aload_n 0, 1) := by decide +kernel
theorem dX3_begin_1 : decode cX3_begin 1 = .ok (.getfield 9, 3) := by decide +kernel
theorem dX3_begin_4 : decode cX3_begin 4 = .ok (.iload_n 1, 1) := by decide +kernel
theorem dX3_begin_5 : decode cX3_begin 5 = .ok (.iload_n 3, 1) := by decide +kernel
theorem dX3_begin_6 : decode cX3_begin 6 = .ok (.iastore, 1) := by decide +kernel
theorem dX3_begin_7 : decode cX3_begin 7 = .ok (.aload_n 0, 1) := by decide +kernel
theorem dX3_begin_8 : decode cX3_begin 8 = .ok (.getfield 15, 3) := by decide +kernel
theorem dX3_begin_11 : decode cX3_begin 11 = .ok (.iload_n 1, 1) := by decide +kernel
theorem dX3_begin_12 : decode cX3_begin 12 = .ok (.iload_n 2, 1) := by decide +kernel
theorem dX3_begin_13 : decode cX3_begin 13 = .ok (.iastore, 1) := by decide +kernel
theorem dX3_begin_14 : decode cX3_begin 14 = .ok (.iconst 0, 1) := by decide +kernel
theorem dX3_begin_15 : decode cX3_begin 15 = .ok (.istore 4, 2) := by decide +kernel
theorem dX3_begin_17 : decode cX3_begin 17 = .ok (.iload 4, 2) := by decide +kernel
theorem dX3_begin_19 : decode cX3_begin 19 = .ok (.iconst 4, 1) := by decide +kernel
theorem dX3_begin_20 : decode cX3_begin 20 = .ok (.if_icmp .ge 17, 3) := by decide +kernel
theorem dX3_begin_23 : decode cX3_begin 23 = .ok (.aload_n 0, 1) := by decide +kernel
theorem dX3_begin_24 : decode cX3_begin 24 = .ok (.iload_n 1, 1) := by decide +kernel
theorem dX3_begin_25 : decode cX3_begin 25 = .ok (.iload 4, 2) := by decide +kernel
theorem dX3_begin_27 : decode cX3_begin 27 = .ok (.iconst (-1), 1) := by decide +kernel
theorem dX3_begin_28 : decode cX3_begin 28 = .ok (.invokevirtual 27, 3) := by decide +kernel
theorem dX3_begin_31 : decode cX3_begin 31 = .ok (.iinc 4 1, 3) := by decide +kernel
theorem dX3_begin_34 : decode cX3_begin 34 = .ok (.goto (-17), 3) := by decide +kernel
theorem dX3_begin_37 : decode cX3_begin 37 = .ok (.return_, 1) := by decide +kernel
theorem dX3_drop_0 : decode cX3_drop 0 = .ok (.aload_n 0, 1) := by decide +kernel
theorem dX3_drop_1 : decode cX3_drop 1 = .ok (.getfield 9, 3) := by decide +kernel
theorem dX3_drop_4 : decode cX3_drop 4 = .ok (.iload_n 1, 1) := by decide +kernel
theorem dX3_drop_5 : decode cX3_drop 5 = .ok (.iconst (-1), 1) := by decide +kernel
theorem dX3_drop_6 : decode cX3_drop 6 = .ok (.iastore, 1) := by decide +kernel
theorem dX3_drop_7 : decode cX3_drop 7 = .ok (.aload_n 0, 1) := by decide +kernel
theorem dX3_drop_8 : decode cX3_drop 8 = .ok (.getfield 15, 3) := by decide +kernel
theorem dX3_drop_11 : decode cX3_drop 11 = .ok (.iload_n 1, 1) := by decide +kernel
theorem dX3_drop_12 : decode cX3_drop 12 = .ok (.iconst (-1), 1) := by decide +kernel
theorem dX3_drop_13 : decode cX3_drop 13 = .ok (.iastore, 1) := by decide +kernel
theorem dX3_drop_14 : decode cX3_drop 14 = .ok (.return_, 1) := by decide +kernel
theorem dX3_has_0 : decode cX3_has 0 = .ok (.aload_n 0, 1) := by decide +kernel
theorem dX3_has_1 : decode cX3_has 1 = .ok (.getfield 9, 3) := by decide +kernel
theorem dX3_has_4 : decode cX3_has 4 = .ok (.iload_n 1, 1) := by decide +kernel
theorem dX3_has_5 : decode cX3_has 5 = .ok (.iaload, 1) := by decide +kernel
theorem dX3_has_6 : decode cX3_has 6 = .ok (.iconst (-1), 1) := by decide +kernel
theorem dX3_has_7 : decode cX3_has 7 = .ok (.if_icmp .eq 7, 3) := by decide +kernel
theorem dX3_has_10 : decode cX3_has 10 = .ok (.iconst 1, 1) := by decide +kernel
theorem dX3_has_11 : decode cX3_has 11 = .ok (.goto 4, 3) := by decide +kernel
theorem dX3_has_14 : decode cX3_has 14 = .ok (.iconst 0, 1) := by decide +kernel
theorem dX3_has_15 : decode cX3_has 15 = .ok (.ireturn, 1) := by decide +kernel
theorem dX3_hasPlace_0 : decode cX3_hasPlace 0 = .ok (.iload_n 2, 1) := by decide +kernel
theorem dX3_hasPlace_1 : decode cX3_hasPlace 1 = .ok (.ifCond .lt 17, 3) := by decide +kernel
theorem dX3_hasPlace_4 : decode cX3_hasPlace 4 = .ok (.iload_n 2, 1) := by decide +kernel
theorem dX3_hasPlace_5 : decode cX3_hasPlace 5 = .ok (.aload_n 0, 1) := by decide +kernel
theorem dX3_hasPlace_6 : decode cX3_hasPlace 6 = .ok (.getfield 9, 3) := by decide +kernel
theorem dX3_hasPlace_9 : decode cX3_hasPlace 9 = .ok (.iload_n 1, 1) := by decide +kernel
theorem dX3_hasPlace_10 : decode cX3_hasPlace 10 = .ok (.iaload, 1) := by decide +kernel
theorem dX3_hasPlace_11 : decode cX3_hasPlace 11 = .ok (.if_icmp .ge 7, 3) := by decide +kernel
theorem dX3_hasPlace_14 : decode cX3_hasPlace 14 = .ok (.iconst 1, 1) := by decide +kernel
theorem dX3_hasPlace_15 : decode cX3_hasPlace 15 = .ok (.goto 4, 3) := by decide +kernel
theorem dX3_hasPlace_18 : decode cX3_hasPlace 18 = .ok (.iconst 0, 1) := by decide +kernel
theorem dX3_hasPlace_19 : decode cX3_hasPlace 19 = .ok (.ireturn, 1) := by decide +kernel
theorem dX3_nameAt_0 : decode cX3_nameAt 0 = .ok (.aload_n 0, 1) := by decide +kernel
theorem dX3_nameAt_1 : decode cX3_nameAt 1 = .ok (.getfield 18, 3) := by decide +kernel
theorem dX3_nameAt_4 : decode cX3_nameAt 4 = .ok (.iload_n 1, 1) := by decide +kernel
theorem dX3_nameAt_5 : decode cX3_nameAt 5 = .ok (.iconst 4, 1) := by decide +kernel
theorem dX3_nameAt_6 : decode cX3_nameAt 6 = .ok (.imul, 1) := by decide +kernel
theorem dX3_nameAt_7 : decode cX3_nameAt 7 = .ok (.iload_n 2, 1) := by decide +kernel
theorem dX3_nameAt_8 : decode cX3_nameAt 8 = .ok (.iadd, 1) := by decide +kernel
theorem dX3_nameAt_9 : decode cX3_nameAt 9 = .ok (.iaload, 1) := by decide +kernel
theorem dX3_nameAt_10 : decode cX3_nameAt 10 = .ok (.ireturn, 1) := by decide +kernel
theorem dX3_setName_0 : decode cX3_setName 0 = .ok (.aload_n 0, 1) := by decide +kernel
theorem dX3_setName_1 : decode cX3_setName 1 = .ok (.getfield 18, 3) := by decide +kernel
theorem dX3_setName_4 : decode cX3_setName 4 = .ok (.iload_n 1, 1) := by decide +kernel
theorem dX3_setName_5 : decode cX3_setName 5 = .ok (.iconst 4, 1) := by decide +kernel
theorem dX3_setName_6 : decode cX3_setName 6 = .ok (.imul, 1) := by decide +kernel
theorem dX3_setName_7 : decode cX3_setName 7 = .ok (.iload_n 2, 1) := by decide +kernel
theorem dX3_setName_8 : decode cX3_setName 8 = .ok (.iadd, 1) := by decide +kernel
theorem dX3_setName_9 : decode cX3_setName 9 = .ok (.iload_n 3, 1) := by decide +kernel
theorem dX3_setName_10 : decode cX3_setName 10 = .ok (.iastore, 1) := by decide +kernel
theorem dX3_setName_11 : decode cX3_setName 11 = .ok (.return_, 1) := by decide +kernel
theorem dX3_namedBits_0 : decode cX3_namedBits 0 = .ok (.iconst 0, 1) := by decide +kernel
theorem dX3_namedBits_1 : decode cX3_namedBits 1 = .ok (.istore_n 2, 1) := by decide +kernel
theorem dX3_namedBits_2 : decode cX3_namedBits 2 = .ok (.iconst 0, 1) := by decide +kernel
theorem dX3_namedBits_3 : decode cX3_namedBits 3 = .ok (.istore_n 3, 1) := by decide +kernel
theorem dX3_namedBits_4 : decode cX3_namedBits 4 = .ok (.iload_n 3, 1) := by decide +kernel
theorem dX3_namedBits_5 : decode cX3_namedBits 5 = .ok (.aload_n 0, 1) := by decide +kernel
theorem dX3_namedBits_6 : decode cX3_namedBits 6 = .ok (.getfield 9, 3) := by decide +kernel
theorem dX3_namedBits_9 : decode cX3_namedBits 9 = .ok (.iload_n 1, 1) := by decide +kernel
theorem dX3_namedBits_10 : decode cX3_namedBits 10 = .ok (.iaload, 1) := by decide +kernel
theorem dX3_namedBits_11 : decode cX3_namedBits 11 = .ok (.if_icmp .ge 21, 3) := by decide +kernel
theorem dX3_namedBits_14 : decode cX3_namedBits 14 = .ok (.iload_n 2, 1) := by decide +kernel
theorem dX3_namedBits_15 : decode cX3_namedBits 15 = .ok (.aload_n 0, 1) := by decide +kernel
theorem dX3_namedBits_16 : decode cX3_namedBits 16 = .ok (.iload_n 1, 1) := by decide +kernel
theorem dX3_namedBits_17 : decode cX3_namedBits 17 = .ok (.iload_n 3, 1) := by decide +kernel
theorem dX3_namedBits_18 : decode cX3_namedBits 18 = .ok (.invokevirtual 31, 3) := by decide +kernel
theorem dX3_namedBits_21 : decode cX3_namedBits 21 = .ok (.invokestatic 35, 3) := by decide +kernel
theorem dX3_namedBits_24 : decode cX3_namedBits 24 = .ok (.ior, 1) := by decide +kernel
theorem dX3_namedBits_25 : decode cX3_namedBits 25 = .ok (.istore_n 2, 1) := by decide +kernel
theorem dX3_namedBits_26 : decode cX3_namedBits 26 = .ok (.iinc 3 1, 3) := by decide +kernel
theorem dX3_namedBits_29 : decode cX3_namedBits 29 = .ok (.goto (-25), 3) := by decide +kernel
theorem dX3_namedBits_32 : decode cX3_namedBits 32 = .ok (.iload_n 2, 1) := by decide +kernel
theorem dX3_namedBits_33 : decode cX3_namedBits 33 = .ok (.ireturn, 1) := by decide +kernel
theorem dX3_firstNamedBit_0 : decode cX3_firstNamedBit 0 = .ok (.iconst 0, 1) := by decide +kernel
theorem dX3_firstNamedBit_1 : decode cX3_firstNamedBit 1 = .ok (.istore_n 2, 1) := by decide +kernel
theorem dX3_firstNamedBit_2 : decode cX3_firstNamedBit 2 = .ok (.iload_n 2, 1) := by decide +kernel
theorem dX3_firstNamedBit_3 : decode cX3_firstNamedBit 3 = .ok (.aload_n 0, 1) := by decide +kernel
theorem dX3_firstNamedBit_4 : decode cX3_firstNamedBit 4 = .ok (.getfield 9, 3) := by decide +kernel
theorem dX3_firstNamedBit_7 : decode cX3_firstNamedBit 7 = .ok (.iload_n 1, 1) := by decide +kernel
theorem dX3_firstNamedBit_8 : decode cX3_firstNamedBit 8 = .ok (.iaload, 1) := by decide +kernel
theorem dX3_firstNamedBit_9 : decode cX3_firstNamedBit 9 = .ok (.if_icmp .ge 29, 3) := by decide +kernel
theorem dX3_firstNamedBit_12 : decode cX3_firstNamedBit 12 = .ok (.aload_n 0, 1) := by decide +kernel
theorem dX3_firstNamedBit_13 : decode cX3_firstNamedBit 13 = .ok (.iload_n 1, 1) := by decide +kernel
theorem dX3_firstNamedBit_14 : decode cX3_firstNamedBit 14 = .ok (.iload_n 2, 1) := by decide +kernel
theorem dX3_firstNamedBit_15 : decode cX3_firstNamedBit 15 = .ok (.invokevirtual 31, 3) := by decide +kernel
theorem dX3_firstNamedBit_18 : decode cX3_firstNamedBit 18 = .ok (.iconst (-1), 1) := by decide +kernel
theorem dX3_firstNamedBit_19 : decode cX3_firstNamedBit 19 = .ok (.if_icmp .eq 13, 3) := by decide +kernel
theorem dX3_firstNamedBit_22 : decode cX3_firstNamedBit 22 = .ok (.aload_n 0, 1) := by decide +kernel
theorem dX3_firstNamedBit_23 : decode cX3_firstNamedBit 23 = .ok (.iload_n 1, 1) := by decide +kernel
theorem dX3_firstNamedBit_24 : decode cX3_firstNamedBit 24 = .ok (.iload_n 2, 1) := by decide +kernel
theorem dX3_firstNamedBit_25 : decode cX3_firstNamedBit 25 = .ok (.invokevirtual 31, 3) := by decide +kernel
theorem dX3_firstNamedBit_28 : decode cX3_firstNamedBit 28 = .ok (.invokestatic 35, 3) := by decide +kernel
theorem dX3_firstNamedBit_31 : decode cX3_firstNamedBit 31 = .ok (.ireturn, 1) := by decide +kernel
theorem dX3_firstNamedBit_32 : decode cX3_firstNamedBit 32 = .ok (.iinc 2 1, 3) := by decide +kernel
theorem dX3_firstNamedBit_35 : decode cX3_firstNamedBit 35 = .ok (.goto (-33), 3) := by decide +kernel
theorem dX3_firstNamedBit_38 : decode cX3_firstNamedBit 38 = .ok (.iconst 0, 1) := by decide +kernel
theorem dX3_firstNamedBit_39 : decode cX3_firstNamedBit 39 = .ok (.ireturn, 1) := by decide +kernel
theorem dX3_bitOf_0 : decode cX3_bitOf 0 = .ok (.iload_n 0, 1) := by decide +kernel
theorem dX3_bitOf_1 : decode cX3_bitOf 1 = .ok (.iconst (-1), 1) := by decide +kernel
theorem dX3_bitOf_2 : decode cX3_bitOf 2 = .ok (.if_icmp .ne 7, 3) := by decide +kernel
theorem dX3_bitOf_5 : decode cX3_bitOf 5 = .ok (.iconst 0, 1) := by decide +kernel
theorem dX3_bitOf_6 : decode cX3_bitOf 6 = .ok (.goto 6, 3) := by decide +kernel
theorem dX3_bitOf_9 : decode cX3_bitOf 9 = .ok (.iconst 1, 1) := by decide +kernel
theorem dX3_bitOf_10 : decode cX3_bitOf 10 = .ok (.iload_n 0, 1) := by decide +kernel
theorem dX3_bitOf_11 : decode cX3_bitOf 11 = .ok (.ishl, 1) := by decide +kernel
theorem dX3_bitOf_12 : decode cX3_bitOf 12 = .ok (.ireturn, 1) := by decide +kernel
theorem dX4_init_0 : decode cX4_init 0 = .ok (.aload_n 0, 1) := by decide +kernel
theorem dX4_init_1 : decode cX4_init 1 = .ok (.invokespecial 3, 3) := by decide +kernel
theorem dX4_init_4 : decode cX4_init 4 = .ok (.aload_n 0, 1) := by decide +kernel
theorem dX4_init_5 : decode cX4_init 5 = .ok (.bipush 9, 2) := by decide +kernel
theorem dX4_init_7 : decode cX4_init 7 = .ok (.newarray .int, 2) := by decide +kernel
theorem dX4_init_9 : decode cX4_init 9 = .ok (.putfield 9, 3) := by decide +kernel
theorem dX4_init_12 : decode cX4_init 12 = .ok (.aload_n 0, 1) := by decide +kernel
theorem dX4_init_13 : decode cX4_init 13 = .ok (.iconst 0, 1) := by decide +kernel
theorem dX4_init_14 : decode cX4_init 14 = .ok (.putfield 15, 3) := by decide +kernel
theorem dX4_init_17 : decode cX4_init 17 = .ok (.aload_n 0, 1) := by decide +kernel
theorem dX4_init_18 : decode cX4_init 18 = .ok (.bipush 9, 2) := by decide +kernel
theorem dX4_init_20 : decode cX4_init 20 = .ok (.newarray .int, 2) := by decide +kernel
theorem dX4_init_22 : decode cX4_init 22 = .ok (.putfield 19, 3) := by decide +kernel
theorem dX4_init_25 : decode cX4_init 25 = .ok (.return_, 1) := by decide +kernel
theorem dX4_closes_0 : decode cX4_closes 0 = .ok (.aload_n 0, 1) := by decide +kernel
theorem dX4_closes_1 : decode cX4_closes 1 = .ok (.aload_n 1, 1) := by decide +kernel
theorem dX4_closes_2 : decode cX4_closes 2 = .ok (.iload_n 2, 1) := by decide +kernel
theorem dX4_closes_3 : decode cX4_closes 3 = .ok (.invokevirtual 22, 3) := by decide +kernel
theorem dX4_closes_6 : decode cX4_closes 6 = .ok (.aload_n 0, 1) := by decide +kernel
theorem dX4_closes_7 : decode cX4_closes 7 = .ok (.getfield 19, 3) := by decide +kernel
theorem dX4_closes_10 : decode cX4_closes 10 = .ok (.iload_n 3, 1) := by decide +kernel
theorem dX4_closes_11 : decode cX4_closes 11 = .ok (.iaload, 1) := by decide +kernel
theorem dX4_closes_12 : decode cX4_closes 12 = .ok (.iconst (-1), 1) := by decide +kernel
theorem dX4_closes_13 : decode cX4_closes 13 = .ok (.if_icmp .ne 5, 3) := by decide +kernel
theorem dX4_closes_16 : decode cX4_closes 16 = .ok (.iconst 0, 1) := by decide +kernel
theorem dX4_closes_17 : decode cX4_closes 17 = .ok (.ireturn, 1) := by decide +kernel
theorem dX4_closes_18 : decode cX4_closes 18 = .ok (.aload_n 0, 1) := by decide +kernel
theorem dX4_closes_19 : decode cX4_closes 19 = .ok (.getfield 9, 3) := by decide +kernel
theorem dX4_closes_22 : decode cX4_closes 22 = .ok (.iconst 0, 1) := by decide +kernel
theorem dX4_closes_23 : decode cX4_closes 23 = .ok (.iload_n 2, 1) := by decide +kernel
theorem dX4_closes_24 : decode cX4_closes 24 = .ok (.iastore, 1) := by decide +kernel
theorem dX4_closes_25 : decode cX4_closes 25 = .ok (.aload_n 0, 1) := by decide +kernel
theorem dX4_closes_26 : decode cX4_closes 26 = .ok (.iconst 1, 1) := by decide +kernel
theorem dX4_closes_27 : decode cX4_closes 27 = .ok (.putfield 15, 3) := by decide +kernel
theorem dX4_closes_30 : decode cX4_closes 30 = .ok (.iload_n 3, 1) := by decide +kernel
theorem dX4_closes_31 : decode cX4_closes 31 = .ok (.istore 4, 2) := by decide +kernel
theorem dX4_closes_33 : decode cX4_closes 33 = .ok (.iconst 1, 1) := by decide +kernel
theorem dX4_closes_34 : decode cX4_closes 34 = .ok (.istore 5, 2) := by decide +kernel
theorem dX4_closes_36 : decode cX4_closes 36 = .ok (.iload 5, 2) := by decide +kernel
theorem dX4_closes_38 : decode cX4_closes 38 = .ok (.bipush 9, 2) := by decide +kernel
theorem dX4_closes_40 : decode cX4_closes 40 = .ok (.if_icmp .ge 54, 3) := by decide +kernel
theorem dX4_closes_43 : decode cX4_closes 43 = .ok (.iload 4, 2) := by decide +kernel
theorem dX4_closes_45 : decode cX4_closes 45 = .ok (.iload_n 2, 1) := by decide +kernel
theorem dX4_closes_46 : decode cX4_closes 46 = .ok (.if_icmp .eq 48, 3) := by decide +kernel
theorem dX4_closes_49 : decode cX4_closes 49 = .ok (.aload_n 0, 1) := by decide +kernel
theorem dX4_closes_50 : decode cX4_closes 50 = .ok (.getfield 9, 3) := by decide +kernel
theorem dX4_closes_53 : decode cX4_closes 53 = .ok (.iload 5, 2) := by decide +kernel
theorem dX4_closes_55 : decode cX4_closes 55 = .ok (.iload 4, 2) := by decide +kernel
theorem dX4_closes_57 : decode cX4_closes 57 = .ok (.iastore, 1) := by decide +kernel
theorem dX4_closes_58 : decode cX4_closes 58 = .ok (.aload_n 0, 1) := by decide +kernel
theorem dX4_closes_59 : decode cX4_closes 59 = .ok (.dup, 1) := by decide +kernel
theorem dX4_closes_60 : decode cX4_closes 60 = .ok (.getfield 15, 3) := by decide +kernel
theorem dX4_closes_63 : decode cX4_closes 63 = .ok (.iconst 1, 1) := by decide +kernel
theorem dX4_closes_64 : decode cX4_closes 64 = .ok (.iadd, 1) := by decide +kernel
theorem dX4_closes_65 : decode cX4_closes 65 = .ok (.putfield 15, 3) := by decide +kernel
theorem dX4_closes_68 : decode cX4_closes 68 = .ok (.aload_n 0, 1) := by decide +kernel
theorem dX4_closes_69 : decode cX4_closes 69 = .ok (.aload_n 1, 1) := by decide +kernel
theorem dX4_closes_70 : decode cX4_closes 70 = .ok (.iload 4, 2) := by decide +kernel
theorem dX4_closes_72 : decode cX4_closes 72 = .ok (.iaload, 1) := by decide +kernel
theorem dX4_closes_73 : decode cX4_closes 73 = .ok (.aload_n 0, 1) := by decide +kernel
theorem dX4_closes_74 : decode cX4_closes 74 = .ok (.getfield 19, 3) := by decide +kernel
theorem dX4_closes_77 : decode cX4_closes 77 = .ok (.iload 4, 2) := by decide +kernel
theorem dX4_closes_79 : decode cX4_closes 79 = .ok (.iaload, 1) := by decide +kernel
theorem dX4_closes_80 : decode cX4_closes 80 = .ok (.iconst 1, 1) := by decide +kernel
theorem dX4_closes_81 : decode cX4_closes 81 = .ok (.isub, 1) := by decide +kernel
theorem dX4_closes_82 : decode cX4_closes 82 = .ok (.iload_n 2, 1) := by decide +kernel
theorem dX4_closes_83 : decode cX4_closes 83 = .ok (.invokevirtual 26, 3) := by decide +kernel
theorem dX4_closes_86 : decode cX4_closes 86 = .ok (.istore 4, 2) := by decide +kernel
theorem dX4_closes_88 : decode cX4_closes 88 = .ok (.iinc 5 1, 3) := by decide +kernel
theorem dX4_closes_91 : decode cX4_closes 91 = .ok (.goto (-55), 3) := by decide +kernel
theorem dX4_closes_94 : decode cX4_closes 94 = .ok (.iconst 1, 1) := by decide +kernel
theorem dX4_closes_95 : decode cX4_closes 95 = .ok (.ireturn, 1) := by decide +kernel
theorem dX4_measure_0 : decode cX4_measure 0 = .ok (.aload_n 0, 1) := by decide +kernel
theorem dX4_measure_1 : decode cX4_measure 1 = .ok (.getfield 19, 3) := by decide +kernel
theorem dX4_measure_4 : decode cX4_measure 4 = .ok (.iconst (-1), 1) := by decide +kernel
theorem dX4_measure_5 : decode cX4_measure 5 = .ok (.invokestatic 30, 3) := by decide +kernel
theorem dX4_measure_8 : decode cX4_measure 8 = .ok (.aload_n 0, 1) := by decide +kernel
theorem dX4_measure_9 : decode cX4_measure 9 = .ok (.getfield 19, 3) := by decide +kernel
theorem dX4_measure_12 : decode cX4_measure 12 = .ok (.iload_n 2, 1) := by decide +kernel
theorem dX4_measure_13 : decode cX4_measure 13 = .ok (.iconst 0, 1) := by decide +kernel
theorem dX4_measure_14 : decode cX4_measure 14 = .ok (.iastore, 1) := by decide +kernel
theorem dX4_measure_15 : decode cX4_measure 15 = .ok (.iconst 1, 1) := by decide +kernel
theorem dX4_measure_16 : decode cX4_measure 16 = .ok (.iload_n 2, 1) := by decide +kernel
theorem dX4_measure_17 : decode cX4_measure 17 = .ok (.ishl, 1) := by decide +kernel
theorem dX4_measure_18 : decode cX4_measure 18 = .ok (.istore_n 3, 1) := by decide +kernel
theorem dX4_measure_19 : decode cX4_measure 19 = .ok (.iconst 1, 1) := by decide +kernel
theorem dX4_measure_20 : decode cX4_measure 20 = .ok (.istore 4, 2) := by decide +kernel
theorem dX4_measure_22 : decode cX4_measure 22 = .ok (.iload 4, 2) := by decide +kernel
theorem dX4_measure_24 : decode cX4_measure 24 = .ok (.bipush 9, 2) := by decide +kernel
theorem dX4_measure_26 : decode cX4_measure 26 = .ok (.if_icmp .ge 69, 3) := by decide +kernel
theorem dX4_measure_29 : decode cX4_measure 29 = .ok (.iconst 0, 1) := by decide +kernel
theorem dX4_measure_30 : decode cX4_measure 30 = .ok (.istore 5, 2) := by decide +kernel
theorem dX4_measure_32 : decode cX4_measure 32 = .ok (.iconst 0, 1) := by decide +kernel
theorem dX4_measure_33 : decode cX4_measure 33 = .ok (.istore 6, 2) := by decide +kernel
theorem dX4_measure_35 : decode cX4_measure 35 = .ok (.iload 6, 2) := by decide +kernel
theorem dX4_measure_37 : decode cX4_measure 37 = .ok (.bipush 9, 2) := by decide +kernel
theorem dX4_measure_39 : decode cX4_measure 39 = .ok (.if_icmp .ge 47, 3) := by decide +kernel
theorem dX4_measure_42 : decode cX4_measure 42 = .ok (.aload_n 0, 1) := by decide +kernel
theorem dX4_measure_43 : decode cX4_measure 43 = .ok (.getfield 19, 3) := by decide +kernel
theorem dX4_measure_46 : decode cX4_measure 46 = .ok (.iload 6, 2) := by decide +kernel
theorem dX4_measure_48 : decode cX4_measure 48 = .ok (.iaload, 1) := by decide +kernel
theorem dX4_measure_49 : decode cX4_measure 49 = .ok (.iconst (-1), 1) := by decide +kernel
theorem dX4_measure_50 : decode cX4_measure 50 = .ok (.if_icmp .ne 30, 3) := by decide +kernel
theorem dX4_measure_53 : decode cX4_measure 53 = .ok (.aload_n 1, 1) := by decide +kernel
theorem dX4_measure_54 : decode cX4_measure 54 = .ok (.iload 6, 2) := by decide +kernel
theorem dX4_measure_56 : decode cX4_measure 56 = .ok (.iaload, 1) := by decide +kernel
theorem dX4_measure_57 : decode cX4_measure 57 = .ok (.iload_n 3, 1) := by decide +kernel
theorem dX4_measure_58 : decode cX4_measure 58 = .ok (.iand, 1) := by decide +kernel
theorem dX4_measure_59 : decode cX4_measure 59 = .ok (.ifCond .eq 21, 3) := by decide +kernel
theorem dX4_measure_62 : decode cX4_measure 62 = .ok (.aload_n 0, 1) := by decide +kernel
theorem dX4_measure_63 : decode cX4_measure 63 = .ok (.getfield 19, 3) := by decide +kernel
theorem dX4_measure_66 : decode cX4_measure 66 = .ok (.iload 6, 2) := by decide +kernel
theorem dX4_measure_68 : decode cX4_measure 68 = .ok (.iload 4, 2) := by decide +kernel
theorem dX4_measure_70 : decode cX4_measure 70 = .ok (.iastore, 1) := by decide +kernel
theorem dX4_measure_71 : decode cX4_measure 71 = .ok (.iload 5, 2) := by decide +kernel
theorem dX4_measure_73 : decode cX4_measure 73 = .ok (.iconst 1, 1) := by decide +kernel
theorem dX4_measure_74 : decode cX4_measure 74 = .ok (.iload 6, 2) := by decide +kernel
theorem dX4_measure_76 : decode cX4_measure 76 = .ok (.ishl, 1) := by decide +kernel
theorem dX4_measure_77 : decode cX4_measure 77 = .ok (.ior, 1) := by decide +kernel
theorem dX4_measure_78 : decode cX4_measure 78 = .ok (.istore 5, 2) := by decide +kernel
theorem dX4_measure_80 : decode cX4_measure 80 = .ok (.iinc 6 1, 3) := by decide +kernel
theorem dX4_measure_83 : decode cX4_measure 83 = .ok (.goto (-48), 3) := by decide +kernel
theorem dX4_measure_86 : decode cX4_measure 86 = .ok (.iload 5, 2) := by decide +kernel
theorem dX4_measure_88 : decode cX4_measure 88 = .ok (.istore_n 3, 1) := by decide +kernel
theorem dX4_measure_89 : decode cX4_measure 89 = .ok (.iinc 4 1, 3) := by decide +kernel
theorem dX4_measure_92 : decode cX4_measure 92 = .ok (.goto (-70), 3) := by decide +kernel
theorem dX4_measure_95 : decode cX4_measure 95 = .ok (.return_, 1) := by decide +kernel
theorem dX4_nearer_0 : decode cX4_nearer 0 = .ok (.iconst 0, 1) := by decide +kernel
theorem dX4_nearer_1 : decode cX4_nearer 1 = .ok (.istore 4, 2) := by decide +kernel
theorem dX4_nearer_3 : decode cX4_nearer 3 = .ok (.iload 4, 2) := by decide +kernel
theorem dX4_nearer_5 : decode cX4_nearer 5 = .ok (.bipush 9, 2) := by decide +kernel
theorem dX4_nearer_7 : decode cX4_nearer 7 = .ok (.if_icmp .ge 33, 3) := by decide +kernel
theorem dX4_nearer_10 : decode cX4_nearer 10 = .ok (.iload_n 1, 1) := by decide +kernel
theorem dX4_nearer_11 : decode cX4_nearer 11 = .ok (.iload 4, 2) := by decide +kernel
theorem dX4_nearer_13 : decode cX4_nearer 13 = .ok (.ishr, 1) := by decide +kernel
theorem dX4_nearer_14 : decode cX4_nearer 14 = .ok (.iconst 1, 1) := by decide +kernel
theorem dX4_nearer_15 : decode cX4_nearer 15 = .ok (.iand, 1) := by decide +kernel
theorem dX4_nearer_16 : decode cX4_nearer 16 = .ok (.iconst 1, 1) := by decide +kernel
theorem dX4_nearer_17 : decode cX4_nearer 17 = .ok (.if_icmp .ne 17, 3) := by decide +kernel
theorem dX4_nearer_20 : decode cX4_nearer 20 = .ok (.aload_n 0, 1) := by decide +kernel
theorem dX4_nearer_21 : decode cX4_nearer 21 = .ok (.getfield 19, 3) := by decide +kernel
theorem dX4_nearer_24 : decode cX4_nearer 24 = .ok (.iload 4, 2) := by decide +kernel
theorem dX4_nearer_26 : decode cX4_nearer 26 = .ok (.iaload, 1) := by decide +kernel
theorem dX4_nearer_27 : decode cX4_nearer 27 = .ok (.iload_n 2, 1) := by decide +kernel
theorem dX4_nearer_28 : decode cX4_nearer 28 = .ok (.if_icmp .ne 6, 3) := by decide +kernel
theorem dX4_nearer_31 : decode cX4_nearer 31 = .ok (.iload 4, 2) := by decide +kernel
theorem dX4_nearer_33 : decode cX4_nearer 33 = .ok (.ireturn, 1) := by decide +kernel
theorem dX4_nearer_34 : decode cX4_nearer 34 = .ok (.iinc 4 1, 3) := by decide +kernel
theorem dX4_nearer_37 : decode cX4_nearer 37 = .ok (.goto (-34), 3) := by decide +kernel
theorem dX4_nearer_40 : decode cX4_nearer 40 = .ok (.iload_n 3, 1) := by decide +kernel
theorem dX4_nearer_41 : decode cX4_nearer 41 = .ok (.ireturn, 1) := by decide +kernel
theorem dX5_init_0 : decode cX5_init 0 = .ok (.aload_n 0, 1) := by decide +kernel
theorem dX5_init_1 : decode cX5_init 1 = .ok (.invokespecial 3, 3) := by decide +kernel
theorem dX5_init_4 : decode cX5_init 4 = .ok (.aload_n 0, 1) := by decide +kernel
theorem dX5_init_5 : decode cX5_init 5 = .ok (.iconst 0, 1) := by decide +kernel
theorem dX5_init_6 : decode cX5_init 6 = .ok (.putfield 9, 3) := by decide +kernel
theorem dX5_init_9 : decode cX5_init 9 = .ok (.aload_n 0, 1) := by decide +kernel
theorem dX5_init_10 : decode cX5_init 10 = .ok (.bipush 9, 2) := by decide +kernel
theorem dX5_init_12 : decode cX5_init 12 = .ok (.newarray .int, 2) := by decide +kernel
theorem dX5_init_14 : decode cX5_init 14 = .ok (.putfield 15, 3) := by decide +kernel
theorem dX5_init_17 : decode cX5_init 17 = .ok (.aload_n 0, 1) := by decide +kernel
theorem dX5_init_18 : decode cX5_init 18 = .ok (.bipush 9, 2) := by decide +kernel
theorem dX5_init_20 : decode cX5_init 20 = .ok (.newarray .int, 2) := by decide +kernel
theorem dX5_init_22 : decode cX5_init 22 = .ok (.putfield 19, 3) := by decide +kernel
theorem dX5_init_25 : decode cX5_init 25 = .ok (.aload_n 0, 1) := by decide +kernel
theorem dX5_init_26 : decode cX5_init 26 = .ok (.bipush 9, 2) := by decide +kernel
theorem dX5_init_28 : decode cX5_init 28 = .ok (.newarray .int, 2) := by decide +kernel
theorem dX5_init_30 : decode cX5_init 30 = .ok (.putfield 22, 3) := by decide +kernel
theorem dX5_init_33 : decode cX5_init 33 = .ok (.aload_n 0, 1) := by decide +kernel
theorem dX5_init_34 : decode cX5_init 34 = .ok (.iconst 0, 1) := by decide +kernel
theorem dX5_init_35 : decode cX5_init 35 = .ok (.putfield 25, 3) := by decide +kernel
theorem dX5_init_38 : decode cX5_init 38 = .ok (.aload_n 0, 1) := by decide +kernel
theorem dX5_init_39 : decode cX5_init 39 = .ok (.iconst 0, 1) := by decide +kernel
theorem dX5_init_40 : decode cX5_init 40 = .ok (.putfield 28, 3) := by decide +kernel
theorem dX5_init_43 : decode cX5_init 43 = .ok (.aload_n 0, 1) := by decide +kernel
theorem dX5_init_44 : decode cX5_init 44 = .ok (.iconst 0, 1) := by decide +kernel
theorem dX5_init_45 : decode cX5_init 45 = .ok (.putfield 31, 3) := by decide +kernel
theorem dX5_init_48 : decode cX5_init 48 = .ok (.aload_n 0, 1) := by decide +kernel
theorem dX5_init_49 : decode cX5_init 49 = .ok (.iconst 0, 1) := by decide +kernel
theorem dX5_init_50 : decode cX5_init 50 = .ok (.putfield 34, 3) := by decide +kernel
theorem dX5_init_53 : decode cX5_init 53 = .ok (.aload_n 0, 1) := by decide +kernel
theorem dX5_init_54 : decode cX5_init 54 = .ok (.iconst 0, 1) := by decide +kernel
theorem dX5_init_55 : decode cX5_init 55 = .ok (.putfield 37, 3) := by decide +kernel
theorem dX5_init_58 : decode cX5_init 58 = .ok (.aload_n 0, 1) := by decide +kernel
theorem dX5_init_59 : decode cX5_init 59 = .ok (.iconst 3, 1) := by decide +kernel
theorem dX5_init_60 : decode cX5_init 60 = .ok (.newarray .int, 2) := by decide +kernel
theorem dX5_init_62 : decode cX5_init 62 = .ok (.putfield 40, 3) := by decide +kernel
theorem dX5_init_65 : decode cX5_init 65 = .ok (.aload_n 0, 1) := by decide +kernel
theorem dX5_init_66 : decode cX5_init 66 = .ok (.iconst 0, 1) := by decide +kernel
theorem dX5_init_67 : decode cX5_init 67 = .ok (.putfield 43, 3) := by decide +kernel
theorem dX5_init_70 : decode cX5_init 70 = .ok (.aload_n 0, 1) := by decide +kernel
theorem dX5_init_71 : decode cX5_init 71 = .ok (.iconst 0, 1) := by decide +kernel
theorem dX5_init_72 : decode cX5_init 72 = .ok (.putfield 46, 3) := by decide +kernel
theorem dX5_init_75 : decode cX5_init 75 = .ok (.return_, 1) := by decide +kernel
theorem dX5_isBath_0 : decode cX5_isBath 0 = .ok (.iload_n 1, 1) := by decide +kernel
theorem dX5_isBath_1 : decode cX5_isBath 1 = .ok (.ifCond .lt 15, 3) := by decide +kernel
theorem dX5_isBath_4 : decode cX5_isBath 4 = .ok (.iload_n 1, 1) := by decide +kernel
theorem dX5_isBath_5 : decode cX5_isBath 5 = .ok (.aload_n 0, 1) := by decide +kernel
theorem dX5_isBath_6 : decode cX5_isBath 6 = .ok (.getfield 9, 3) := by decide +kernel
theorem dX5_isBath_9 : decode cX5_isBath 9 = .ok (.if_icmp .ge 7, 3) := by decide +kernel
theorem dX5_isBath_12 : decode cX5_isBath 12 = .ok (.iconst 1, 1) := by decide +kernel
theorem dX5_isBath_13 : decode cX5_isBath 13 = .ok (.goto 4, 3) := by decide +kernel
theorem dX5_isBath_16 : decode cX5_isBath 16 = .ok (.iconst 0, 1) := by decide +kernel
theorem dX5_isBath_17 : decode cX5_isBath 17 = .ok (.ireturn, 1) := by decide +kernel
theorem dX5_isGoal_0 : decode cX5_isGoal 0 = .ok (.aload_n 0, 1) := by decide +kernel
theorem dX5_isGoal_1 : decode cX5_isGoal 1 = .ok (.getfield 43, 3) := by decide +kernel
theorem dX5_isGoal_4 : decode cX5_isGoal 4 = .ok (.iload_n 1, 1) := by decide +kernel
theorem dX5_isGoal_5 : decode cX5_isGoal 5 = .ok (.ishr, 1) := by decide +kernel
theorem dX5_isGoal_6 : decode cX5_isGoal 6 = .ok (.iconst 1, 1) := by decide +kernel
theorem dX5_isGoal_7 : decode cX5_isGoal 7 = .ok (.iand, 1) := by decide +kernel
theorem dX5_isGoal_8 : decode cX5_isGoal 8 = .ok (.iconst 1, 1) := by decide +kernel
theorem dX5_isGoal_9 : decode cX5_isGoal 9 = .ok (.if_icmp .ne 7, 3) := by decide +kernel
theorem dX5_isGoal_12 : decode cX5_isGoal 12 = .ok (.iconst 1, 1) := by decide +kernel
theorem dX5_isGoal_13 : decode cX5_isGoal 13 = .ok (.goto 4, 3) := by decide +kernel
theorem dX5_isGoal_16 : decode cX5_isGoal 16 = .ok (.iconst 0, 1) := by decide +kernel
theorem dX5_isGoal_17 : decode cX5_isGoal 17 = .ok (.ireturn, 1) := by decide +kernel
theorem dX5_addBath_0 : decode cX5_addBath 0 = .ok (.aload_n 0, 1) := by decide +kernel
theorem dX5_addBath_1 : decode cX5_addBath 1 = .ok (.dup, 1) := by decide +kernel
theorem dX5_addBath_2 : decode cX5_addBath 2 = .ok (.getfield 9, 3) := by decide +kernel
theorem dX5_addBath_5 : decode cX5_addBath 5 = .ok (.dup_x1, 1) := by decide +kernel
theorem dX5_addBath_6 : decode cX5_addBath 6 = .ok (.iconst 1, 1) := by decide +kernel
theorem dX5_addBath_7 : decode cX5_addBath 7 = .ok (.iadd, 1) := by decide +kernel
theorem dX5_addBath_8 : decode cX5_addBath 8 = .ok (.putfield 9, 3) := by decide +kernel
theorem dX5_addBath_11 : decode cX5_addBath 11 = .ok (.istore_n 2, 1) := by decide +kernel
theorem dX5_addBath_12 : decode cX5_addBath 12 = .ok (.aload_n 0, 1) := by decide +kernel
theorem dX5_addBath_13 : decode cX5_addBath 13 = .ok (.getfield 15, 3) := by decide +kernel
theorem dX5_addBath_16 : decode cX5_addBath 16 = .ok (.iload_n 2, 1) := by decide +kernel
theorem dX5_addBath_17 : decode cX5_addBath 17 = .ok (.iload_n 1, 1) := by decide +kernel
theorem dX5_addBath_18 : decode cX5_addBath 18 = .ok (.iastore, 1) := by decide +kernel
theorem dX5_addBath_19 : decode cX5_addBath 19 = .ok (.aload_n 0, 1) := by decide +kernel
theorem dX5_addBath_20 : decode cX5_addBath 20 = .ok (.dup, 1) := by decide +kernel
theorem dX5_addBath_21 : decode cX5_addBath 21 = .ok (.getfield 28, 3) := by decide +kernel
theorem dX5_addBath_24 : decode cX5_addBath 24 = .ok (.iload_n 1, 1) := by decide +kernel
theorem dX5_addBath_25 : decode cX5_addBath 25 = .ok (.iconst 3, 1) := by decide +kernel
theorem dX5_addBath_26 : decode cX5_addBath 26 = .ok (.if_icmp .ne 9, 3) := by decide +kernel
theorem dX5_addBath_29 : decode cX5_addBath 29 = .ok (.iconst 1, 1) := by decide +kernel
theorem dX5_addBath_30 : decode cX5_addBath 30 = .ok (.iload_n 2, 1) := by decide +kernel
theorem dX5_addBath_31 : decode cX5_addBath 31 = .ok (.ishl, 1) := by decide +kernel
theorem dX5_addBath_32 : decode cX5_addBath 32 = .ok (.goto 4, 3) := by decide +kernel
theorem dX5_addBath_35 : decode cX5_addBath 35 = .ok (.iconst 0, 1) := by decide +kernel
theorem dX5_addBath_36 : decode cX5_addBath 36 = .ok (.ior, 1) := by decide +kernel
theorem dX5_addBath_37 : decode cX5_addBath 37 = .ok (.putfield 28, 3) := by decide +kernel
theorem dX5_addBath_40 : decode cX5_addBath 40 = .ok (.aload_n 0, 1) := by decide +kernel
theorem dX5_addBath_41 : decode cX5_addBath 41 = .ok (.dup, 1) := by decide +kernel
theorem dX5_addBath_42 : decode cX5_addBath 42 = .ok (.getfield 31, 3) := by decide +kernel
theorem dX5_addBath_45 : decode cX5_addBath 45 = .ok (.iload_n 1, 1) := by decide +kernel
theorem dX5_addBath_46 : decode cX5_addBath 46 = .ok (.iconst 2, 1) := by decide +kernel
theorem dX5_addBath_47 : decode cX5_addBath 47 = .ok (.if_icmp .ne 9, 3) := by decide +kernel
theorem dX5_addBath_50 : decode cX5_addBath 50 = .ok (.iconst 1, 1) := by decide +kernel
theorem dX5_addBath_51 : decode cX5_addBath 51 = .ok (.iload_n 2, 1) := by decide +kernel
theorem dX5_addBath_52 : decode cX5_addBath 52 = .ok (.ishl, 1) := by decide +kernel
theorem dX5_addBath_53 : decode cX5_addBath 53 = .ok (.goto 4, 3) := by decide +kernel
theorem dX5_addBath_56 : decode cX5_addBath 56 = .ok (.iconst 0, 1) := by decide +kernel
theorem dX5_addBath_57 : decode cX5_addBath 57 = .ok (.ior, 1) := by decide +kernel
theorem dX5_addBath_58 : decode cX5_addBath 58 = .ok (.putfield 31, 3) := by decide +kernel
theorem dX5_addBath_61 : decode cX5_addBath 61 = .ok (.aload_n 0, 1) := by decide +kernel
theorem dX5_addBath_62 : decode cX5_addBath 62 = .ok (.dup, 1) := by decide +kernel
theorem dX5_addBath_63 : decode cX5_addBath 63 = .ok (.getfield 34, 3) := by decide +kernel
theorem dX5_addBath_66 : decode cX5_addBath 66 = .ok (.iload_n 1, 1) := by decide +kernel
theorem dX5_addBath_67 : decode cX5_addBath 67 = .ok (.iconst 4, 1) := by decide +kernel
theorem dX5_addBath_68 : decode cX5_addBath 68 = .ok (.if_icmp .ne 9, 3) := by decide +kernel
theorem dX5_addBath_71 : decode cX5_addBath 71 = .ok (.iconst 1, 1) := by decide +kernel
theorem dX5_addBath_72 : decode cX5_addBath 72 = .ok (.iload_n 2, 1) := by decide +kernel
theorem dX5_addBath_73 : decode cX5_addBath 73 = .ok (.ishl, 1) := by decide +kernel
theorem dX5_addBath_74 : decode cX5_addBath 74 = .ok (.goto 4, 3) := by decide +kernel
theorem dX5_addBath_77 : decode cX5_addBath 77 = .ok (.iconst 0, 1) := by decide +kernel
theorem dX5_addBath_78 : decode cX5_addBath 78 = .ok (.ior, 1) := by decide +kernel
theorem dX5_addBath_79 : decode cX5_addBath 79 = .ok (.putfield 34, 3) := by decide +kernel
theorem dX5_addBath_82 : decode cX5_addBath 82 = .ok (.iload_n 2, 1) := by decide +kernel
theorem dX5_addBath_83 : decode cX5_addBath 83 = .ok (.ireturn, 1) := by decide +kernel
theorem dX5_addGoal_0 : decode cX5_addGoal 0 = .ok (.aload_n 0, 1) := by decide +kernel
theorem dX5_addGoal_1 : decode cX5_addGoal 1 = .ok (.getfield 40, 3) := by decide +kernel
theorem dX5_addGoal_4 : decode cX5_addGoal 4 = .ok (.aload_n 0, 1) := by decide +kernel
theorem dX5_addGoal_5 : decode cX5_addGoal 5 = .ok (.dup, 1) := by decide +kernel
theorem dX5_addGoal_6 : decode cX5_addGoal 6 = .ok (.getfield 37, 3) := by decide +kernel
theorem dX5_addGoal_9 : decode cX5_addGoal 9 = .ok (.dup_x1, 1) := by decide +kernel
theorem dX5_addGoal_10 : decode cX5_addGoal 10 = .ok (.iconst 1, 1) := by decide +kernel
theorem dX5_addGoal_11 : decode cX5_addGoal 11 = .ok (.iadd, 1) := by decide +kernel
theorem dX5_addGoal_12 : decode cX5_addGoal 12 = .ok (.putfield 37, 3) := by decide +kernel
theorem dX5_addGoal_15 : decode cX5_addGoal 15 = .ok (.iload_n 1, 1) := by decide +kernel
theorem dX5_addGoal_16 : decode cX5_addGoal 16 = .ok (.iastore, 1) := by decide +kernel
theorem dX5_addGoal_17 : decode cX5_addGoal 17 = .ok (.aload_n 0, 1) := by decide +kernel
theorem dX5_addGoal_18 : decode cX5_addGoal 18 = .ok (.dup, 1) := by decide +kernel
theorem dX5_addGoal_19 : decode cX5_addGoal 19 = .ok (.getfield 43, 3) := by decide +kernel
theorem dX5_addGoal_22 : decode cX5_addGoal 22 = .ok (.iconst 1, 1) := by decide +kernel
theorem dX5_addGoal_23 : decode cX5_addGoal 23 = .ok (.iload_n 1, 1) := by decide +kernel
theorem dX5_addGoal_24 : decode cX5_addGoal 24 = .ok (.ishl, 1) := by decide +kernel
theorem dX5_addGoal_25 : decode cX5_addGoal 25 = .ok (.ior, 1) := by decide +kernel
theorem dX5_addGoal_26 : decode cX5_addGoal 26 = .ok (.putfield 43, 3) := by decide +kernel
theorem dX5_addGoal_29 : decode cX5_addGoal 29 = .ok (.aload_n 0, 1) := by decide +kernel
theorem dX5_addGoal_30 : decode cX5_addGoal 30 = .ok (.getfield 37, 3) := by decide +kernel
theorem dX5_addGoal_33 : decode cX5_addGoal 33 = .ok (.ireturn, 1) := by decide +kernel
theorem dX5_dropGoals_0 : decode cX5_dropGoals 0 = .ok (.aload_n 0, 1) := by decide +kernel
theorem dX5_dropGoals_1 : decode cX5_dropGoals 1 = .ok (.iconst 0, 1) := by decide +kernel
theorem dX5_dropGoals_2 : decode cX5_dropGoals 2 = .ok (.putfield 37, 3) := by decide +kernel
theorem dX5_dropGoals_5 : decode cX5_dropGoals 5 = .ok (.aload_n 0, 1) := by decide +kernel
theorem dX5_dropGoals_6 : decode cX5_dropGoals 6 = .ok (.iconst 0, 1) := by decide +kernel
theorem dX5_dropGoals_7 : decode cX5_dropGoals 7 = .ok (.putfield 43, 3) := by decide +kernel
theorem dX5_dropGoals_10 : decode cX5_dropGoals 10 = .ok (.return_, 1) := by decide +kernel
theorem dX5_learn_0 : decode cX5_learn 0 = .ok (.aload_n 0, 1) := by decide +kernel
theorem dX5_learn_1 : decode cX5_learn 1 = .ok (.aload_n 2, 1) := by decide +kernel
theorem dX5_learn_2 : decode cX5_learn 2 = .ok (.iload_n 1, 1) := by decide +kernel
theorem dX5_learn_3 : decode cX5_learn 3 = .ok (.invokevirtual 50, 3) := by decide +kernel
theorem dX5_learn_6 : decode cX5_learn 6 = .ok (.ifCond .eq 14, 3) := by decide +kernel
theorem dX5_learn_9 : decode cX5_learn 9 = .ok (.aload_n 0, 1) := by decide +kernel
theorem dX5_learn_10 : decode cX5_learn 10 = .ok (.getfield 25, 3) := by decide +kernel
theorem dX5_learn_13 : decode cX5_learn 13 = .ok (.iconst 1, 1) := by decide +kernel
theorem dX5_learn_14 : decode cX5_learn 14 = .ok (.iload_n 1, 1) := by decide +kernel
theorem dX5_learn_15 : decode cX5_learn 15 = .ok (.ishl, 1) := by decide +kernel
theorem dX5_learn_16 : decode cX5_learn 16 = .ok (.ior, 1) := by decide +kernel
theorem dX5_learn_17 : decode cX5_learn 17 = .ok (.goto 13, 3) := by decide +kernel
theorem dX5_learn_20 : decode cX5_learn 20 = .ok (.aload_n 0, 1) := by decide +kernel
theorem dX5_learn_21 : decode cX5_learn 21 = .ok (.getfield 25, 3) := by decide +kernel
theorem dX5_learn_24 : decode cX5_learn 24 = .ok (.iconst 1, 1) := by decide +kernel
theorem dX5_learn_25 : decode cX5_learn 25 = .ok (.iload_n 1, 1) := by decide +kernel
theorem dX5_learn_26 : decode cX5_learn 26 = .ok (.ishl, 1) := by decide +kernel
theorem dX5_learn_27 : decode cX5_learn 27 = .ok (.iconst (-1), 1) := by decide +kernel
theorem dX5_learn_28 : decode cX5_learn 28 = .ok (.ixor, 1) := by decide +kernel
theorem dX5_learn_29 : decode cX5_learn 29 = .ok (.iand, 1) := by decide +kernel
theorem dX5_learn_30 : decode cX5_learn 30 = .ok (.putfield 25, 3) := by decide +kernel
theorem dX5_learn_33 : decode cX5_learn 33 = .ok (.aload_n 0, 1) := by decide +kernel
theorem dX5_learn_34 : decode cX5_learn 34 = .ok (.getfield 19, 3) := by decide +kernel
theorem dX5_learn_37 : decode cX5_learn 37 = .ok (.iload_n 1, 1) := by decide +kernel
theorem dX5_learn_38 : decode cX5_learn 38 = .ok (.aload_n 2, 1) := by decide +kernel
theorem dX5_learn_39 : decode cX5_learn 39 = .ok (.iload_n 1, 1) := by decide +kernel
theorem dX5_learn_40 : decode cX5_learn 40 = .ok (.invokevirtual 56, 3) := by decide +kernel
theorem dX5_learn_43 : decode cX5_learn 43 = .ok (.iastore, 1) := by decide +kernel
theorem dX5_learn_44 : decode cX5_learn 44 = .ok (.aload_n 0, 1) := by decide +kernel
theorem dX5_learn_45 : decode cX5_learn 45 = .ok (.getfield 15, 3) := by decide +kernel
theorem dX5_learn_48 : decode cX5_learn 48 = .ok (.iload_n 1, 1) := by decide +kernel
theorem dX5_learn_49 : decode cX5_learn 49 = .ok (.iaload, 1) := by decide +kernel
theorem dX5_learn_50 : decode cX5_learn 50 = .ok (.iconst 1, 1) := by decide +kernel
theorem dX5_learn_51 : decode cX5_learn 51 = .ok (.if_icmp .eq 13, 3) := by decide +kernel
theorem dX5_learn_54 : decode cX5_learn 54 = .ok (.aload_n 0, 1) := by decide +kernel
theorem dX5_learn_55 : decode cX5_learn 55 = .ok (.getfield 15, 3) := by decide +kernel
theorem dX5_learn_58 : decode cX5_learn 58 = .ok (.iload_n 1, 1) := by decide +kernel
theorem dX5_learn_59 : decode cX5_learn 59 = .ok (.iaload, 1) := by decide +kernel
theorem dX5_learn_60 : decode cX5_learn 60 = .ok (.iconst 3, 1) := by decide +kernel
theorem dX5_learn_61 : decode cX5_learn 61 = .ok (.if_icmp .ne 7, 3) := by decide +kernel
theorem dX5_learn_64 : decode cX5_learn 64 = .ok (.iconst 1, 1) := by decide +kernel
theorem dX5_learn_65 : decode cX5_learn 65 = .ok (.goto 4, 3) := by decide +kernel
theorem dX5_learn_68 : decode cX5_learn 68 = .ok (.iconst 0, 1) := by decide +kernel
theorem dX5_learn_69 : decode cX5_learn 69 = .ok (.istore_n 3, 1) := by decide +kernel
theorem dX5_learn_70 : decode cX5_learn 70 = .ok (.aload_n 0, 1) := by decide +kernel
theorem dX5_learn_71 : decode cX5_learn 71 = .ok (.getfield 22, 3) := by decide +kernel
theorem dX5_learn_74 : decode cX5_learn 74 = .ok (.iload_n 1, 1) := by decide +kernel
theorem dX5_learn_75 : decode cX5_learn 75 = .ok (.iload_n 3, 1) := by decide +kernel
theorem dX5_learn_76 : decode cX5_learn 76 = .ok (.ifCond .eq 11, 3) := by decide +kernel
theorem dX5_learn_79 : decode cX5_learn 79 = .ok (.aload_n 2, 1) := by decide +kernel
theorem dX5_learn_80 : decode cX5_learn 80 = .ok (.iload_n 1, 1) := by decide +kernel
theorem dX5_learn_81 : decode cX5_learn 81 = .ok (.invokevirtual 60, 3) := by decide +kernel
theorem dX5_learn_84 : decode cX5_learn 84 = .ok (.goto 4, 3) := by decide +kernel
theorem dX5_learn_87 : decode cX5_learn 87 = .ok (.iconst 0, 1) := by decide +kernel
theorem dX5_learn_88 : decode cX5_learn 88 = .ok (.iastore, 1) := by decide +kernel
theorem dX5_learn_89 : decode cX5_learn 89 = .ok (.return_, 1) := by decide +kernel
theorem dX5_hasFrail_0 : decode cX5_hasFrail 0 = .ok (.aload_n 0, 1) := by decide +kernel
theorem dX5_hasFrail_1 : decode cX5_hasFrail 1 = .ok (.getfield 34, 3) := by decide +kernel
theorem dX5_hasFrail_4 : decode cX5_hasFrail 4 = .ok (.ifCond .eq 7, 3) := by decide +kernel
theorem dX5_hasFrail_7 : decode cX5_hasFrail 7 = .ok (.iconst 1, 1) := by decide +kernel
theorem dX5_hasFrail_8 : decode cX5_hasFrail 8 = .ok (.goto 4, 3) := by decide +kernel
theorem dX5_hasFrail_11 : decode cX5_hasFrail 11 = .ok (.iconst 0, 1) := by decide +kernel
theorem dX5_hasFrail_12 : decode cX5_hasFrail 12 = .ok (.ireturn, 1) := by decide +kernel
theorem dX5_allFillOne_0 : decode cX5_allFillOne 0 = .ok (.aload_n 0, 1) := by decide +kernel
theorem dX5_allFillOne_1 : decode cX5_allFillOne 1 = .ok (.getfield 31, 3) := by decide +kernel
theorem dX5_allFillOne_4 : decode cX5_allFillOne 4 = .ok (.aload_n 0, 1) := by decide +kernel
theorem dX5_allFillOne_5 : decode cX5_allFillOne 5 = .ok (.getfield 34, 3) := by decide +kernel
theorem dX5_allFillOne_8 : decode cX5_allFillOne 8 = .ok (.ior, 1) := by decide +kernel
theorem dX5_allFillOne_9 : decode cX5_allFillOne 9 = .ok (.ifCond .ne 7, 3) := by decide +kernel
theorem dX5_allFillOne_12 : decode cX5_allFillOne 12 = .ok (.iconst 1, 1) := by decide +kernel
theorem dX5_allFillOne_13 : decode cX5_allFillOne 13 = .ok (.goto 4, 3) := by decide +kernel
theorem dX5_allFillOne_16 : decode cX5_allFillOne 16 = .ok (.iconst 0, 1) := by decide +kernel
theorem dX5_allFillOne_17 : decode cX5_allFillOne 17 = .ok (.ireturn, 1) := by decide +kernel
theorem dX5_nextTold_0 : decode cX5_nextTold 0 = .ok (.iconst 0, 1) := by decide +kernel
theorem dX5_nextTold_1 : decode cX5_nextTold 1 = .ok (.istore_n 2, 1) := by decide +kernel
theorem dX5_nextTold_2 : decode cX5_nextTold 2 = .ok (.iload_n 2, 1) := by decide +kernel
theorem dX5_nextTold_3 : decode cX5_nextTold 3 = .ok (.aload_n 0, 1) := by decide +kernel
theorem dX5_nextTold_4 : decode cX5_nextTold 4 = .ok (.getfield 9, 3) := by decide +kernel
theorem dX5_nextTold_7 : decode cX5_nextTold 7 = .ok (.if_icmp .ge 49, 3) := by decide +kernel
theorem dX5_nextTold_10 : decode cX5_nextTold 10 = .ok (.aload_n 0, 1) := by decide +kernel
theorem dX5_nextTold_11 : decode cX5_nextTold 11 = .ok (.getfield 25, 3) := by decide +kernel
theorem dX5_nextTold_14 : decode cX5_nextTold 14 = .ok (.iload_n 1, 1) := by decide +kernel
theorem dX5_nextTold_15 : decode cX5_nextTold 15 = .ok (.iconst (-1), 1) := by decide +kernel
theorem dX5_nextTold_16 : decode cX5_nextTold 16 = .ok (.ixor, 1) := by decide +kernel
theorem dX5_nextTold_17 : decode cX5_nextTold 17 = .ok (.iand, 1) := by decide +kernel
theorem dX5_nextTold_18 : decode cX5_nextTold 18 = .ok (.iconst 1, 1) := by decide +kernel
theorem dX5_nextTold_19 : decode cX5_nextTold 19 = .ok (.iload_n 2, 1) := by decide +kernel
theorem dX5_nextTold_20 : decode cX5_nextTold 20 = .ok (.ishl, 1) := by decide +kernel
theorem dX5_nextTold_21 : decode cX5_nextTold 21 = .ok (.iand, 1) := by decide +kernel
theorem dX5_nextTold_22 : decode cX5_nextTold 22 = .ok (.ifCond .eq 7, 3) := by decide +kernel
theorem dX5_nextTold_25 : decode cX5_nextTold 25 = .ok (.iconst 1, 1) := by decide +kernel
theorem dX5_nextTold_26 : decode cX5_nextTold 26 = .ok (.goto 4, 3) := by decide +kernel
theorem dX5_nextTold_29 : decode cX5_nextTold 29 = .ok (.iconst 0, 1) := by decide +kernel
theorem dX5_nextTold_30 : decode cX5_nextTold 30 = .ok (.istore_n 3, 1) := by decide +kernel
theorem dX5_nextTold_31 : decode cX5_nextTold 31 = .ok (.iload_n 3, 1) := by decide +kernel
theorem dX5_nextTold_32 : decode cX5_nextTold 32 = .ok (.ifCond .eq 18, 3) := by decide +kernel
theorem dX5_nextTold_35 : decode cX5_nextTold 35 = .ok (.aload_n 0, 1) := by decide +kernel
theorem dX5_nextTold_36 : decode cX5_nextTold 36 = .ok (.getfield 19, 3) := by decide +kernel
theorem dX5_nextTold_39 : decode cX5_nextTold 39 = .ok (.iload_n 2, 1) := by decide +kernel
theorem dX5_nextTold_40 : decode cX5_nextTold 40 = .ok (.iaload, 1) := by decide +kernel
theorem dX5_nextTold_41 : decode cX5_nextTold 41 = .ok (.iload_n 1, 1) := by decide +kernel
theorem dX5_nextTold_42 : decode cX5_nextTold 42 = .ok (.iconst (-1), 1) := by decide +kernel
theorem dX5_nextTold_43 : decode cX5_nextTold 43 = .ok (.ixor, 1) := by decide +kernel
theorem dX5_nextTold_44 : decode cX5_nextTold 44 = .ok (.iand, 1) := by decide +kernel
theorem dX5_nextTold_45 : decode cX5_nextTold 45 = .ok (.ifCond .ne 5, 3) := by decide +kernel
theorem dX5_nextTold_48 : decode cX5_nextTold 48 = .ok (.iload_n 2, 1) := by decide +kernel
theorem dX5_nextTold_49 : decode cX5_nextTold 49 = .ok (.ireturn, 1) := by decide +kernel
theorem dX5_nextTold_50 : decode cX5_nextTold 50 = .ok (.iinc 2 1, 3) := by decide +kernel
theorem dX5_nextTold_53 : decode cX5_nextTold 53 = .ok (.goto (-51), 3) := by decide +kernel
theorem dX5_nextTold_56 : decode cX5_nextTold 56 = .ok (.iconst (-1), 1) := by decide +kernel
theorem dX5_nextTold_57 : decode cX5_nextTold 57 = .ok (.ireturn, 1) := by decide +kernel
theorem dX5_stands_0 : decode cX5_stands 0 = .ok (.iload_n 1, 1) := by decide +kernel
theorem dX5_stands_1 : decode cX5_stands 1 = .ok (.iconst 1, 1) := by decide +kernel
theorem dX5_stands_2 : decode cX5_stands 2 = .ok (.iload_n 0, 1) := by decide +kernel
theorem dX5_stands_3 : decode cX5_stands 3 = .ok (.ishl, 1) := by decide +kernel
theorem dX5_stands_4 : decode cX5_stands 4 = .ok (.iand, 1) := by decide +kernel
theorem dX5_stands_5 : decode cX5_stands 5 = .ok (.ifCond .eq 7, 3) := by decide +kernel
theorem dX5_stands_8 : decode cX5_stands 8 = .ok (.iconst 1, 1) := by decide +kernel
theorem dX5_stands_9 : decode cX5_stands 9 = .ok (.goto 4, 3) := by decide +kernel
theorem dX5_stands_12 : decode cX5_stands 12 = .ok (.iconst 0, 1) := by decide +kernel
theorem dX5_stands_13 : decode cX5_stands 13 = .ok (.ireturn, 1) := by decide +kernel
theorem dX5_filled_0 : decode cX5_filled 0 = .ok (.aload_n 0, 1) := by decide +kernel
theorem dX5_filled_1 : decode cX5_filled 1 = .ok (.iload_n 1, 1) := by decide +kernel
theorem dX5_filled_2 : decode cX5_filled 2 = .ok (.sipush 511, 3) := by decide +kernel
theorem dX5_filled_5 : decode cX5_filled 5 = .ok (.iand, 1) := by decide +kernel
theorem dX5_filled_6 : decode cX5_filled 6 = .ok (.iload_n 1, 1) := by decide +kernel
theorem dX5_filled_7 : decode cX5_filled 7 = .ok (.invokevirtual 63, 3) := by decide +kernel
theorem dX5_filled_10 : decode cX5_filled 10 = .ok (.ireturn, 1) := by decide +kernel
theorem dX5_filledBy_0 : decode cX5_filledBy 0 = .ok (.aload_n 0, 1) := by decide +kernel
theorem dX5_filledBy_1 : decode cX5_filledBy 1 = .ok (.getfield 31, 3) := by decide +kernel
theorem dX5_filledBy_4 : decode cX5_filledBy 4 = .ok (.iload_n 2, 1) := by decide +kernel
theorem dX5_filledBy_5 : decode cX5_filledBy 5 = .ok (.invokestatic 67, 3) := by decide +kernel
theorem dX5_filledBy_8 : decode cX5_filledBy 8 = .ok (.ior, 1) := by decide +kernel
theorem dX5_filledBy_9 : decode cX5_filledBy 9 = .ok (.istore_n 3, 1) := by decide +kernel
theorem dX5_filledBy_10 : decode cX5_filledBy 10 = .ok (.iload_n 1, 1) := by decide +kernel
theorem dX5_filledBy_11 : decode cX5_filledBy 11 = .ok (.invokestatic 70, 3) := by decide +kernel
theorem dX5_filledBy_14 : decode cX5_filledBy 14 = .ok (.iload_n 1, 1) := by decide +kernel
theorem dX5_filledBy_15 : decode cX5_filledBy 15 = .ok (.iload_n 3, 1) := by decide +kernel
theorem dX5_filledBy_16 : decode cX5_filledBy 16 = .ok (.iand, 1) := by decide +kernel
theorem dX5_filledBy_17 : decode cX5_filledBy 17 = .ok (.invokestatic 70, 3) := by decide +kernel
theorem dX5_filledBy_20 : decode cX5_filledBy 20 = .ok (.iadd, 1) := by decide +kernel
theorem dX5_filledBy_21 : decode cX5_filledBy 21 = .ok (.ireturn, 1) := by decide +kernel
theorem dX5_freshBit_0 : decode cX5_freshBit 0 = .ok (.iconst 1, 1) := by decide +kernel
theorem dX5_freshBit_1 : decode cX5_freshBit 1 = .ok (.iload_n 0, 1) := by decide +kernel
theorem dX5_freshBit_2 : decode cX5_freshBit 2 = .ok (.bipush 12, 2) := by decide +kernel
theorem dX5_freshBit_4 : decode cX5_freshBit 4 = .ok (.ishr, 1) := by decide +kernel
theorem dX5_freshBit_5 : decode cX5_freshBit 5 = .ok (.ishl, 1) := by decide +kernel
theorem dX5_freshBit_6 : decode cX5_freshBit 6 = .ok (.iconst 1, 1) := by decide +kernel
theorem dX5_freshBit_7 : decode cX5_freshBit 7 = .ok (.ishr, 1) := by decide +kernel
theorem dX5_freshBit_8 : decode cX5_freshBit 8 = .ok (.ireturn, 1) := by decide +kernel
theorem dX5_hindrance_0 : decode cX5_hindrance 0 = .ok (.iload_n 2, 1) := by decide +kernel
theorem dX5_hindrance_1 : decode cX5_hindrance 1 = .ok (.sipush 511, 3) := by decide +kernel
theorem dX5_hindrance_4 : decode cX5_hindrance 4 = .ok (.iand, 1) := by decide +kernel
theorem dX5_hindrance_5 : decode cX5_hindrance 5 = .ok (.istore 4, 2) := by decide +kernel
theorem dX5_hindrance_7 : decode cX5_hindrance 7 = .ok (.iconst 1, 1) := by decide +kernel
theorem dX5_hindrance_8 : decode cX5_hindrance 8 = .ok (.iload_n 1, 1) := by decide +kernel
theorem dX5_hindrance_9 : decode cX5_hindrance 9 = .ok (.ishl, 1) := by decide +kernel
theorem dX5_hindrance_10 : decode cX5_hindrance 10 = .ok (.istore 5, 2) := by decide +kernel
theorem dX5_hindrance_12 : decode cX5_hindrance 12 = .ok (.aload_n 0, 1) := by decide +kernel
theorem dX5_hindrance_13 : decode cX5_hindrance 13 = .ok (.getfield 25, 3) := by decide +kernel
theorem dX5_hindrance_16 : decode cX5_hindrance 16 = .ok (.iload 5, 2) := by decide +kernel
theorem dX5_hindrance_18 : decode cX5_hindrance 18 = .ok (.iand, 1) := by decide +kernel
theorem dX5_hindrance_19 : decode cX5_hindrance 19 = .ok (.ifCond .ne 5, 3) := by decide +kernel
theorem dX5_hindrance_22 : decode cX5_hindrance 22 = .ok (.iconst 1, 1) := by decide +kernel
theorem dX5_hindrance_23 : decode cX5_hindrance 23 = .ok (.ireturn, 1) := by decide +kernel
theorem dX5_hindrance_24 : decode cX5_hindrance 24 = .ok (.iload 4, 2) := by decide +kernel
theorem dX5_hindrance_26 : decode cX5_hindrance 26 = .ok (.iload 5, 2) := by decide +kernel
theorem dX5_hindrance_28 : decode cX5_hindrance 28 = .ok (.iand, 1) := by decide +kernel
theorem dX5_hindrance_29 : decode cX5_hindrance 29 = .ok (.ifCond .eq 5, 3) := by decide +kernel
theorem dX5_hindrance_32 : decode cX5_hindrance 32 = .ok (.iconst 2, 1) := by decide +kernel
theorem dX5_hindrance_33 : decode cX5_hindrance 33 = .ok (.ireturn, 1) := by decide +kernel
theorem dX5_hindrance_34 : decode cX5_hindrance 34 = .ok (.aload_n 0, 1) := by decide +kernel
theorem dX5_hindrance_35 : decode cX5_hindrance 35 = .ok (.getfield 19, 3) := by decide +kernel
theorem dX5_hindrance_38 : decode cX5_hindrance 38 = .ok (.iload_n 1, 1) := by decide +kernel
theorem dX5_hindrance_39 : decode cX5_hindrance 39 = .ok (.iaload, 1) := by decide +kernel
theorem dX5_hindrance_40 : decode cX5_hindrance 40 = .ok (.iload 4, 2) := by decide +kernel
theorem dX5_hindrance_42 : decode cX5_hindrance 42 = .ok (.iconst (-1), 1) := by decide +kernel
theorem dX5_hindrance_43 : decode cX5_hindrance 43 = .ok (.ixor, 1) := by decide +kernel
theorem dX5_hindrance_44 : decode cX5_hindrance 44 = .ok (.iand, 1) := by decide +kernel
theorem dX5_hindrance_45 : decode cX5_hindrance 45 = .ok (.ifCond .eq 5, 3) := by decide +kernel
theorem dX5_hindrance_48 : decode cX5_hindrance 48 = .ok (.iconst 3, 1) := by decide +kernel
theorem dX5_hindrance_49 : decode cX5_hindrance 49 = .ok (.ireturn, 1) := by decide +kernel
theorem dX5_hindrance_50 : decode cX5_hindrance 50 = .ok (.iload 4, 2) := by decide +kernel
theorem dX5_hindrance_52 : decode cX5_hindrance 52 = .ok (.aload_n 0, 1) := by decide +kernel
theorem dX5_hindrance_53 : decode cX5_hindrance 53 = .ok (.getfield 22, 3) := by decide +kernel
theorem dX5_hindrance_56 : decode cX5_hindrance 56 = .ok (.iload_n 1, 1) := by decide +kernel
theorem dX5_hindrance_57 : decode cX5_hindrance 57 = .ok (.iaload, 1) := by decide +kernel
theorem dX5_hindrance_58 : decode cX5_hindrance 58 = .ok (.iconst (-1), 1) := by decide +kernel
theorem dX5_hindrance_59 : decode cX5_hindrance 59 = .ok (.ixor, 1) := by decide +kernel
theorem dX5_hindrance_60 : decode cX5_hindrance 60 = .ok (.iand, 1) := by decide +kernel
theorem dX5_hindrance_61 : decode cX5_hindrance 61 = .ok (.istore 6, 2) := by decide +kernel
theorem dX5_hindrance_63 : decode cX5_hindrance 63 = .ok (.aload_n 0, 1) := by decide +kernel
theorem dX5_hindrance_64 : decode cX5_hindrance 64 = .ok (.getfield 28, 3) := by decide +kernel
theorem dX5_hindrance_67 : decode cX5_hindrance 67 = .ok (.iload 5, 2) := by decide +kernel
theorem dX5_hindrance_69 : decode cX5_hindrance 69 = .ok (.iand, 1) := by decide +kernel
theorem dX5_hindrance_70 : decode cX5_hindrance 70 = .ok (.ifCond .eq 15, 3) := by decide +kernel
theorem dX5_hindrance_73 : decode cX5_hindrance 73 = .ok (.aload_n 0, 1) := by decide +kernel
theorem dX5_hindrance_74 : decode cX5_hindrance 74 = .ok (.getfield 28, 3) := by decide +kernel
theorem dX5_hindrance_77 : decode cX5_hindrance 77 = .ok (.iload 6, 2) := by decide +kernel
theorem dX5_hindrance_79 : decode cX5_hindrance 79 = .ok (.iand, 1) := by decide +kernel
theorem dX5_hindrance_80 : decode cX5_hindrance 80 = .ok (.ifCond .eq 5, 3) := by decide +kernel
theorem dX5_hindrance_83 : decode cX5_hindrance 83 = .ok (.iconst 4, 1) := by decide +kernel
theorem dX5_hindrance_84 : decode cX5_hindrance 84 = .ok (.ireturn, 1) := by decide +kernel
theorem dX5_hindrance_85 : decode cX5_hindrance 85 = .ok (.aload_n 0, 1) := by decide +kernel
theorem dX5_hindrance_86 : decode cX5_hindrance 86 = .ok (.getfield 31, 3) := by decide +kernel
theorem dX5_hindrance_89 : decode cX5_hindrance 89 = .ok (.aload_n 0, 1) := by decide +kernel
theorem dX5_hindrance_90 : decode cX5_hindrance 90 = .ok (.getfield 34, 3) := by decide +kernel
theorem dX5_hindrance_93 : decode cX5_hindrance 93 = .ok (.ior, 1) := by decide +kernel
theorem dX5_hindrance_94 : decode cX5_hindrance 94 = .ok (.iload 5, 2) := by decide +kernel
theorem dX5_hindrance_96 : decode cX5_hindrance 96 = .ok (.iand, 1) := by decide +kernel
theorem dX5_hindrance_97 : decode cX5_hindrance 97 = .ok (.ifCond .eq 7, 3) := by decide +kernel
theorem dX5_hindrance_100 : decode cX5_hindrance 100 = .ok (.iconst 2, 1) := by decide +kernel
theorem dX5_hindrance_101 : decode cX5_hindrance 101 = .ok (.goto 4, 3) := by decide +kernel
theorem dX5_hindrance_104 : decode cX5_hindrance 104 = .ok (.iconst 1, 1) := by decide +kernel
theorem dX5_hindrance_105 : decode cX5_hindrance 105 = .ok (.istore 7, 2) := by decide +kernel
theorem dX5_hindrance_107 : decode cX5_hindrance 107 = .ok (.iload_n 3, 1) := by decide +kernel
theorem dX5_hindrance_108 : decode cX5_hindrance 108 = .ok (.aload_n 0, 1) := by decide +kernel
theorem dX5_hindrance_109 : decode cX5_hindrance 109 = .ok (.iload 6, 2) := by decide +kernel
theorem dX5_hindrance_111 : decode cX5_hindrance 111 = .ok (.iload_n 2, 1) := by decide +kernel
theorem dX5_hindrance_112 : decode cX5_hindrance 112 = .ok (.invokevirtual 63, 3) := by decide +kernel
theorem dX5_hindrance_115 : decode cX5_hindrance 115 = .ok (.isub, 1) := by decide +kernel
theorem dX5_hindrance_116 : decode cX5_hindrance 116 = .ok (.iload 7, 2) := by decide +kernel
theorem dX5_hindrance_118 : decode cX5_hindrance 118 = .ok (.if_icmp .ge 7, 3) := by decide +kernel
theorem dX5_hindrance_121 : decode cX5_hindrance 121 = .ok (.iconst 5, 1) := by decide +kernel
theorem dX5_hindrance_122 : decode cX5_hindrance 122 = .ok (.goto 4, 3) := by decide +kernel
theorem dX5_hindrance_125 : decode cX5_hindrance 125 = .ok (.iconst 0, 1) := by decide +kernel
theorem dX5_hindrance_126 : decode cX5_hindrance 126 = .ok (.ireturn, 1) := by decide +kernel
theorem dX5_whenMade_0 : decode cX5_whenMade 0 = .ok (.iload_n 2, 1) := by decide +kernel
theorem dX5_whenMade_1 : decode cX5_whenMade 1 = .ok (.aload_n 0, 1) := by decide +kernel
theorem dX5_whenMade_2 : decode cX5_whenMade 2 = .ok (.getfield 22, 3) := by decide +kernel
theorem dX5_whenMade_5 : decode cX5_whenMade 5 = .ok (.iload_n 1, 1) := by decide +kernel
theorem dX5_whenMade_6 : decode cX5_whenMade 6 = .ok (.iaload, 1) := by decide +kernel
theorem dX5_whenMade_7 : decode cX5_whenMade 7 = .ok (.iconst (-1), 1) := by decide +kernel
theorem dX5_whenMade_8 : decode cX5_whenMade 8 = .ok (.ixor, 1) := by decide +kernel
theorem dX5_whenMade_9 : decode cX5_whenMade 9 = .ok (.iand, 1) := by decide +kernel
theorem dX5_whenMade_10 : decode cX5_whenMade 10 = .ok (.sipush 4095, 3) := by decide +kernel
theorem dX5_whenMade_13 : decode cX5_whenMade 13 = .ok (.iand, 1) := by decide +kernel
theorem dX5_whenMade_14 : decode cX5_whenMade 14 = .ok (.istore_n 3, 1) := by decide +kernel
theorem dX5_whenMade_15 : decode cX5_whenMade 15 = .ok (.aload_n 0, 1) := by decide +kernel
theorem dX5_whenMade_16 : decode cX5_whenMade 16 = .ok (.getfield 15, 3) := by decide +kernel
theorem dX5_whenMade_19 : decode cX5_whenMade 19 = .ok (.iload_n 1, 1) := by decide +kernel
theorem dX5_whenMade_20 : decode cX5_whenMade 20 = .ok (.iaload, 1) := by decide +kernel
theorem dX5_whenMade_21 : decode cX5_whenMade 21 = .ok (.iconst 4, 1) := by decide +kernel
theorem dX5_whenMade_22 : decode cX5_whenMade 22 = .ok (.if_icmp .ne 9, 3) := by decide +kernel
theorem dX5_whenMade_25 : decode cX5_whenMade 25 = .ok (.iload_n 1, 1) := by decide +kernel
theorem dX5_whenMade_26 : decode cX5_whenMade 26 = .ok (.iconst 1, 1) := by decide +kernel
theorem dX5_whenMade_27 : decode cX5_whenMade 27 = .ok (.iadd, 1) := by decide +kernel
theorem dX5_whenMade_28 : decode cX5_whenMade 28 = .ok (.goto 4, 3) := by decide +kernel
theorem dX5_whenMade_31 : decode cX5_whenMade 31 = .ok (.iconst 0, 1) := by decide +kernel
theorem dX5_whenMade_32 : decode cX5_whenMade 32 = .ok (.istore 4, 2) := by decide +kernel
theorem dX5_whenMade_34 : decode cX5_whenMade 34 = .ok (.iload_n 3, 1) := by decide +kernel
theorem dX5_whenMade_35 : decode cX5_whenMade 35 = .ok (.iconst 1, 1) := by decide +kernel
theorem dX5_whenMade_36 : decode cX5_whenMade 36 = .ok (.iload_n 1, 1) := by decide +kernel
theorem dX5_whenMade_37 : decode cX5_whenMade 37 = .ok (.ishl, 1) := by decide +kernel
theorem dX5_whenMade_38 : decode cX5_whenMade 38 = .ok (.ior, 1) := by decide +kernel
theorem dX5_whenMade_39 : decode cX5_whenMade 39 = .ok (.iload 4, 2) := by decide +kernel
theorem dX5_whenMade_41 : decode cX5_whenMade 41 = .ok (.bipush 12, 2) := by decide +kernel
theorem dX5_whenMade_43 : decode cX5_whenMade 43 = .ok (.ishl, 1) := by decide +kernel
theorem dX5_whenMade_44 : decode cX5_whenMade 44 = .ok (.ior, 1) := by decide +kernel
theorem dX5_whenMade_45 : decode cX5_whenMade 45 = .ok (.ireturn, 1) := by decide +kernel
theorem dX5_whenPoured_0 : decode cX5_whenPoured 0 = .ok (.iload_n 1, 1) := by decide +kernel
theorem dX5_whenPoured_1 : decode cX5_whenPoured 1 = .ok (.iconst 1, 1) := by decide +kernel
theorem dX5_whenPoured_2 : decode cX5_whenPoured 2 = .ok (.iload_n 0, 1) := by decide +kernel
theorem dX5_whenPoured_3 : decode cX5_whenPoured 3 = .ok (.ishl, 1) := by decide +kernel
theorem dX5_whenPoured_4 : decode cX5_whenPoured 4 = .ok (.iconst (-1), 1) := by decide +kernel
theorem dX5_whenPoured_5 : decode cX5_whenPoured 5 = .ok (.ixor, 1) := by decide +kernel
theorem dX5_whenPoured_6 : decode cX5_whenPoured 6 = .ok (.iand, 1) := by decide +kernel
theorem dX5_whenPoured_7 : decode cX5_whenPoured 7 = .ok (.istore_n 2, 1) := by decide +kernel
theorem dX5_whenPoured_8 : decode cX5_whenPoured 8 = .ok (.iload_n 1, 1) := by decide +kernel
theorem dX5_whenPoured_9 : decode cX5_whenPoured 9 = .ok (.invokestatic 67, 3) := by decide +kernel
theorem dX5_whenPoured_12 : decode cX5_whenPoured 12 = .ok (.iconst 1, 1) := by decide +kernel
theorem dX5_whenPoured_13 : decode cX5_whenPoured 13 = .ok (.iload_n 0, 1) := by decide +kernel
theorem dX5_whenPoured_14 : decode cX5_whenPoured 14 = .ok (.ishl, 1) := by decide +kernel
theorem dX5_whenPoured_15 : decode cX5_whenPoured 15 = .ok (.if_icmp .ne 11, 3) := by decide +kernel
theorem dX5_whenPoured_18 : decode cX5_whenPoured 18 = .ok (.iload_n 2, 1) := by decide +kernel
theorem dX5_whenPoured_19 : decode cX5_whenPoured 19 = .ok (.sipush 4095, 3) := by decide +kernel
theorem dX5_whenPoured_22 : decode cX5_whenPoured 22 = .ok (.iand, 1) := by decide +kernel
theorem dX5_whenPoured_23 : decode cX5_whenPoured 23 = .ok (.goto 4, 3) := by decide +kernel
theorem dX5_whenPoured_26 : decode cX5_whenPoured 26 = .ok (.iload_n 2, 1) := by decide +kernel
theorem dX5_whenPoured_27 : decode cX5_whenPoured 27 = .ok (.ireturn, 1) := by decide +kernel
theorem dX5_lead_0 : decode cX5_lead 0 = .ok (.iload_n 2, 1) := by decide +kernel
theorem dX5_lead_1 : decode cX5_lead 1 = .ok (.bipush 9, 2) := by decide +kernel
theorem dX5_lead_3 : decode cX5_lead 3 = .ok (.if_icmp .ge 28, 3) := by decide +kernel
theorem dX5_lead_6 : decode cX5_lead 6 = .ok (.aload_n 0, 1) := by decide +kernel
theorem dX5_lead_7 : decode cX5_lead 7 = .ok (.iload_n 2, 1) := by decide +kernel
theorem dX5_lead_8 : decode cX5_lead 8 = .ok (.iload_n 1, 1) := by decide +kernel
theorem dX5_lead_9 : decode cX5_lead 9 = .ok (.iload_n 3, 1) := by decide +kernel
theorem dX5_lead_10 : decode cX5_lead 10 = .ok (.invokevirtual 75, 3) := by decide +kernel
theorem dX5_lead_13 : decode cX5_lead 13 = .ok (.ifCond .ne 16, 3) := by decide +kernel
theorem dX5_lead_16 : decode cX5_lead 16 = .ok (.aload_n 0, 1) := by decide +kernel
theorem dX5_lead_17 : decode cX5_lead 17 = .ok (.aload_n 0, 1) := by decide +kernel
theorem dX5_lead_18 : decode cX5_lead 18 = .ok (.iload_n 2, 1) := by decide +kernel
theorem dX5_lead_19 : decode cX5_lead 19 = .ok (.iload_n 1, 1) := by decide +kernel
theorem dX5_lead_20 : decode cX5_lead 20 = .ok (.invokevirtual 79, 3) := by decide +kernel
theorem dX5_lead_23 : decode cX5_lead 23 = .ok (.invokevirtual 82, 3) := by decide +kernel
theorem dX5_lead_26 : decode cX5_lead 26 = .ok (.goto 4, 3) := by decide +kernel
theorem dX5_lead_29 : decode cX5_lead 29 = .ok (.iconst (-1), 1) := by decide +kernel
theorem dX5_lead_30 : decode cX5_lead 30 = .ok (.ireturn, 1) := by decide +kernel
theorem dX5_lead_31 : decode cX5_lead 31 = .ok (.iload_n 2, 1) := by decide +kernel
theorem dX5_lead_32 : decode cX5_lead 32 = .ok (.bipush 9, 2) := by decide +kernel
theorem dX5_lead_34 : decode cX5_lead 34 = .ok (.isub, 1) := by decide +kernel
theorem dX5_lead_35 : decode cX5_lead 35 = .ok (.istore 4, 2) := by decide +kernel
theorem dX5_lead_37 : decode cX5_lead 37 = .ok (.iload 4, 2) := by decide +kernel
theorem dX5_lead_39 : decode cX5_lead 39 = .ok (.iload_n 1, 1) := by decide +kernel
theorem dX5_lead_40 : decode cX5_lead 40 = .ok (.invokestatic 85, 3) := by decide +kernel
theorem dX5_lead_43 : decode cX5_lead 43 = .ok (.ifCond .eq 16, 3) := by decide +kernel
theorem dX5_lead_46 : decode cX5_lead 46 = .ok (.aload_n 0, 1) := by decide +kernel
theorem dX5_lead_47 : decode cX5_lead 47 = .ok (.iload 4, 2) := by decide +kernel
theorem dX5_lead_49 : decode cX5_lead 49 = .ok (.iload_n 1, 1) := by decide +kernel
theorem dX5_lead_50 : decode cX5_lead 50 = .ok (.invokestatic 89, 3) := by decide +kernel
theorem dX5_lead_53 : decode cX5_lead 53 = .ok (.invokevirtual 82, 3) := by decide +kernel
theorem dX5_lead_56 : decode cX5_lead 56 = .ok (.goto 4, 3) := by decide +kernel
theorem dX5_lead_59 : decode cX5_lead 59 = .ok (.iconst (-1), 1) := by decide +kernel
theorem dX5_lead_60 : decode cX5_lead 60 = .ok (.ireturn, 1) := by decide +kernel
theorem dX5_withStood_0 : decode cX5_withStood 0 = .ok (.aload_n 0, 1) := by decide +kernel
theorem dX5_withStood_1 : decode cX5_withStood 1 = .ok (.getfield 46, 3) := by decide +kernel
theorem dX5_withStood_4 : decode cX5_withStood 4 = .ok (.ifCond .ne 12, 3) := by decide +kernel
theorem dX5_withStood_7 : decode cX5_withStood 7 = .ok (.iload_n 1, 1) := by decide +kernel
theorem dX5_withStood_8 : decode cX5_withStood 8 = .ok (.aload_n 0, 1) := by decide +kernel
theorem dX5_withStood_9 : decode cX5_withStood 9 = .ok (.getfield 43, 3) := by decide +kernel
theorem dX5_withStood_12 : decode cX5_withStood 12 = .ok (.iand, 1) := by decide +kernel
theorem dX5_withStood_13 : decode cX5_withStood 13 = .ok (.ifCond .ne 5, 3) := by decide +kernel
theorem dX5_withStood_16 : decode cX5_withStood 16 = .ok (.iload_n 1, 1) := by decide +kernel
theorem dX5_withStood_17 : decode cX5_withStood 17 = .ok (.ireturn, 1) := by decide +kernel
theorem dX5_withStood_18 : decode cX5_withStood 18 = .ok (.iload_n 1, 1) := by decide +kernel
theorem dX5_withStood_19 : decode cX5_withStood 19 = .ok (.istore_n 2, 1) := by decide +kernel
theorem dX5_withStood_20 : decode cX5_withStood 20 = .ok (.iconst 0, 1) := by decide +kernel
theorem dX5_withStood_21 : decode cX5_withStood 21 = .ok (.istore_n 3, 1) := by decide +kernel
theorem dX5_withStood_22 : decode cX5_withStood 22 = .ok (.iload_n 3, 1) := by decide +kernel
theorem dX5_withStood_23 : decode cX5_withStood 23 = .ok (.aload_n 0, 1) := by decide +kernel
theorem dX5_withStood_24 : decode cX5_withStood 24 = .ok (.getfield 37, 3) := by decide +kernel
theorem dX5_withStood_27 : decode cX5_withStood 27 = .ok (.if_icmp .ge 31, 3) := by decide +kernel
theorem dX5_withStood_30 : decode cX5_withStood 30 = .ok (.aload_n 0, 1) := by decide +kernel
theorem dX5_withStood_31 : decode cX5_withStood 31 = .ok (.getfield 40, 3) := by decide +kernel
theorem dX5_withStood_34 : decode cX5_withStood 34 = .ok (.iload_n 3, 1) := by decide +kernel
theorem dX5_withStood_35 : decode cX5_withStood 35 = .ok (.iaload, 1) := by decide +kernel
theorem dX5_withStood_36 : decode cX5_withStood 36 = .ok (.iload_n 1, 1) := by decide +kernel
theorem dX5_withStood_37 : decode cX5_withStood 37 = .ok (.invokestatic 85, 3) := by decide +kernel
theorem dX5_withStood_40 : decode cX5_withStood 40 = .ok (.ifCond .eq 12, 3) := by decide +kernel
theorem dX5_withStood_43 : decode cX5_withStood 43 = .ok (.iload_n 2, 1) := by decide +kernel
theorem dX5_withStood_44 : decode cX5_withStood 44 = .ok (.iconst 1, 1) := by decide +kernel
theorem dX5_withStood_45 : decode cX5_withStood 45 = .ok (.bipush 9, 2) := by decide +kernel
theorem dX5_withStood_47 : decode cX5_withStood 47 = .ok (.iload_n 3, 1) := by decide +kernel
theorem dX5_withStood_48 : decode cX5_withStood 48 = .ok (.iadd, 1) := by decide +kernel
theorem dX5_withStood_49 : decode cX5_withStood 49 = .ok (.ishl, 1) := by decide +kernel
theorem dX5_withStood_50 : decode cX5_withStood 50 = .ok (.ior, 1) := by decide +kernel
theorem dX5_withStood_51 : decode cX5_withStood 51 = .ok (.istore_n 2, 1) := by decide +kernel
theorem dX5_withStood_52 : decode cX5_withStood 52 = .ok (.iinc 3 1, 3) := by decide +kernel
theorem dX5_withStood_55 : decode cX5_withStood 55 = .ok (.goto (-33), 3) := by decide +kernel
theorem dX5_withStood_58 : decode cX5_withStood 58 = .ok (.iload_n 2, 1) := by decide +kernel
theorem dX5_withStood_59 : decode cX5_withStood 59 = .ok (.ireturn, 1) := by decide +kernel
theorem dX5_reaches_0 : decode cX5_reaches 0 = .ok (.aload_n 0, 1) := by decide +kernel
theorem dX5_reaches_1 : decode cX5_reaches 1 = .ok (.getfield 46, 3) := by decide +kernel
theorem dX5_reaches_4 : decode cX5_reaches 4 = .ok (.ifCond .eq 10, 3) := by decide +kernel
theorem dX5_reaches_7 : decode cX5_reaches 7 = .ok (.aload_n 0, 1) := by decide +kernel
theorem dX5_reaches_8 : decode cX5_reaches 8 = .ok (.getfield 43, 3) := by decide +kernel
theorem dX5_reaches_11 : decode cX5_reaches 11 = .ok (.goto 14, 3) := by decide +kernel
theorem dX5_reaches_14 : decode cX5_reaches 14 = .ok (.iconst 1, 1) := by decide +kernel
theorem dX5_reaches_15 : decode cX5_reaches 15 = .ok (.aload_n 0, 1) := by decide +kernel
theorem dX5_reaches_16 : decode cX5_reaches 16 = .ok (.getfield 37, 3) := by decide +kernel
theorem dX5_reaches_19 : decode cX5_reaches 19 = .ok (.ishl, 1) := by decide +kernel
theorem dX5_reaches_20 : decode cX5_reaches 20 = .ok (.iconst 1, 1) := by decide +kernel
theorem dX5_reaches_21 : decode cX5_reaches 21 = .ok (.isub, 1) := by decide +kernel
theorem dX5_reaches_22 : decode cX5_reaches 22 = .ok (.bipush 9, 2) := by decide +kernel
theorem dX5_reaches_24 : decode cX5_reaches 24 = .ok (.ishl, 1) := by decide +kernel
theorem dX5_reaches_25 : decode cX5_reaches 25 = .ok (.istore_n 2, 1) := by decide +kernel
theorem dX5_reaches_26 : decode cX5_reaches 26 = .ok (.iload_n 1, 1) := by decide +kernel
theorem dX5_reaches_27 : decode cX5_reaches 27 = .ok (.iload_n 2, 1) := by decide +kernel
theorem dX5_reaches_28 : decode cX5_reaches 28 = .ok (.iand, 1) := by decide +kernel
theorem dX5_reaches_29 : decode cX5_reaches 29 = .ok (.iload_n 2, 1) := by decide +kernel
theorem dX5_reaches_30 : decode cX5_reaches 30 = .ok (.if_icmp .ne 7, 3) := by decide +kernel
theorem dX5_reaches_33 : decode cX5_reaches 33 = .ok (.iconst 1, 1) := by decide +kernel
theorem dX5_reaches_34 : decode cX5_reaches 34 = .ok (.goto 4, 3) := by decide +kernel
theorem dX5_reaches_37 : decode cX5_reaches 37 = .ok (.iconst 0, 1) := by decide +kernel
theorem dX5_reaches_38 : decode cX5_reaches 38 = .ok (.ireturn, 1) := by decide +kernel
theorem dX5_known_0 : decode cX5_known 0 = .ok (.iload_n 1, 1) := by decide +kernel
theorem dX5_known_1 : decode cX5_known 1 = .ok (.sipush 511, 3) := by decide +kernel
theorem dX5_known_4 : decode cX5_known 4 = .ok (.iand, 1) := by decide +kernel
theorem dX5_known_5 : decode cX5_known 5 = .ok (.istore_n 2, 1) := by decide +kernel
theorem dX5_known_6 : decode cX5_known 6 = .ok (.iload_n 1, 1) := by decide +kernel
theorem dX5_known_7 : decode cX5_known 7 = .ok (.bipush 9, 2) := by decide +kernel
theorem dX5_known_9 : decode cX5_known 9 = .ok (.ishr, 1) := by decide +kernel
theorem dX5_known_10 : decode cX5_known 10 = .ok (.istore_n 3, 1) := by decide +kernel
theorem dX5_known_11 : decode cX5_known 11 = .ok (.iload_n 2, 1) := by decide +kernel
theorem dX5_known_12 : decode cX5_known 12 = .ok (.aload_n 0, 1) := by decide +kernel
theorem dX5_known_13 : decode cX5_known 13 = .ok (.getfield 9, 3) := by decide +kernel
theorem dX5_known_16 : decode cX5_known 16 = .ok (.ishr, 1) := by decide +kernel
theorem dX5_known_17 : decode cX5_known 17 = .ok (.ifCond .ne 27, 3) := by decide +kernel
theorem dX5_known_20 : decode cX5_known 20 = .ok (.iload_n 3, 1) := by decide +kernel
theorem dX5_known_21 : decode cX5_known 21 = .ok (.aload_n 0, 1) := by decide +kernel
theorem dX5_known_22 : decode cX5_known 22 = .ok (.getfield 46, 3) := by decide +kernel
theorem dX5_known_25 : decode cX5_known 25 = .ok (.ifCond .eq 7, 3) := by decide +kernel
theorem dX5_known_28 : decode cX5_known 28 = .ok (.iconst 0, 1) := by decide +kernel
theorem dX5_known_29 : decode cX5_known 29 = .ok (.goto 7, 3) := by decide +kernel
theorem dX5_known_32 : decode cX5_known 32 = .ok (.aload_n 0, 1) := by decide +kernel
theorem dX5_known_33 : decode cX5_known 33 = .ok (.getfield 37, 3) := by decide +kernel
theorem dX5_known_36 : decode cX5_known 36 = .ok (.ishr, 1) := by decide +kernel
theorem dX5_known_37 : decode cX5_known 37 = .ok (.ifCond .ne 7, 3) := by decide +kernel
theorem dX5_known_40 : decode cX5_known 40 = .ok (.iconst 1, 1) := by decide +kernel
theorem dX5_known_41 : decode cX5_known 41 = .ok (.goto 4, 3) := by decide +kernel
theorem dX5_known_44 : decode cX5_known 44 = .ok (.iconst 0, 1) := by decide +kernel
theorem dX5_known_45 : decode cX5_known 45 = .ok (.ireturn, 1) := by decide +kernel
theorem dX6_init_0 : decode cX6_init 0 = .ok (.aload_n 0, 1) := by decide +kernel
theorem dX6_init_1 : decode cX6_init 1 = .ok (.invokespecial 3, 3) := by decide +kernel
theorem dX6_init_4 : decode cX6_init 4 = .ok (.aload_n 0, 1) := by decide +kernel
theorem dX6_init_5 : decode cX6_init 5 = .ok (.new 9, 3) := by decide +kernel
theorem dX6_init_8 : decode cX6_init 8 = .ok (.dup, 1) := by decide +kernel
theorem dX6_init_9 : decode cX6_init 9 = .ok (.invokespecial 11, 3) := by decide +kernel
theorem dX6_init_12 : decode cX6_init 12 = .ok (.putfield 12, 3) := by decide +kernel
theorem dX6_init_15 : decode cX6_init 15 = .ok (.aload_n 0, 1) := by decide +kernel
theorem dX6_init_16 : decode cX6_init 16 = .ok (.new 16, 3) := by decide +kernel
theorem dX6_init_19 : decode cX6_init 19 = .ok (.dup, 1) := by decide +kernel
theorem dX6_init_20 : decode cX6_init 20 = .ok (.invokespecial 18, 3) := by decide +kernel
theorem dX6_init_23 : decode cX6_init 23 = .ok (.putfield 19, 3) := by decide +kernel
theorem dX6_init_26 : decode cX6_init 26 = .ok (.aload_n 0, 1) := by decide +kernel
theorem dX6_init_27 : decode cX6_init 27 = .ok (.new 23, 3) := by decide +kernel
theorem dX6_init_30 : decode cX6_init 30 = .ok (.dup, 1) := by decide +kernel
theorem dX6_init_31 : decode cX6_init 31 = .ok (.invokespecial 25, 3) := by decide +kernel
theorem dX6_init_34 : decode cX6_init 34 = .ok (.putfield 26, 3) := by decide +kernel
theorem dX6_init_37 : decode cX6_init 37 = .ok (.aload_n 0, 1) := by decide +kernel
theorem dX6_init_38 : decode cX6_init 38 = .ok (.new 30, 3) := by decide +kernel
theorem dX6_init_41 : decode cX6_init 41 = .ok (.dup, 1) := by decide +kernel
theorem dX6_init_42 : decode cX6_init 42 = .ok (.invokespecial 32, 3) := by decide +kernel
theorem dX6_init_45 : decode cX6_init 45 = .ok (.putfield 33, 3) := by decide +kernel
theorem dX6_init_48 : decode cX6_init 48 = .ok (.aload_n 0, 1) := by decide +kernel
theorem dX6_init_49 : decode cX6_init 49 = .ok (.new 37, 3) := by decide +kernel
theorem dX6_init_52 : decode cX6_init 52 = .ok (.dup, 1) := by decide +kernel
theorem dX6_init_53 : decode cX6_init 53 = .ok (.aload_n 0, 1) := by decide +kernel
theorem dX6_init_54 : decode cX6_init 54 = .ok (.getfield 19, 3) := by decide +kernel
theorem dX6_init_57 : decode cX6_init 57 = .ok (.invokespecial 39, 3) := by decide +kernel
theorem dX6_init_60 : decode cX6_init 60 = .ok (.putfield 42, 3) := by decide +kernel
theorem dX6_init_63 : decode cX6_init 63 = .ok (.aload_n 0, 1) := by decide +kernel
theorem dX6_init_64 : decode cX6_init 64 = .ok (.new 46, 3) := by decide +kernel
theorem dX6_init_67 : decode cX6_init 67 = .ok (.dup, 1) := by decide +kernel
theorem dX6_init_68 : decode cX6_init 68 = .ok (.aload_n 0, 1) := by decide +kernel
theorem dX6_init_69 : decode cX6_init 69 = .ok (.getfield 19, 3) := by decide +kernel
theorem dX6_init_72 : decode cX6_init 72 = .ok (.aload_n 0, 1) := by decide +kernel
theorem dX6_init_73 : decode cX6_init 73 = .ok (.getfield 42, 3) := by decide +kernel
theorem dX6_init_76 : decode cX6_init 76 = .ok (.invokespecial 48, 3) := by decide +kernel
theorem dX6_init_79 : decode cX6_init 79 = .ok (.putfield 51, 3) := by decide +kernel
theorem dX6_init_82 : decode cX6_init 82 = .ok (.aload_n 0, 1) := by decide +kernel
theorem dX6_init_83 : decode cX6_init 83 = .ok (.bipush 9, 2) := by decide +kernel
theorem dX6_init_85 : decode cX6_init 85 = .ok (.newarray .int, 2) := by decide +kernel
theorem dX6_init_87 : decode cX6_init 87 = .ok (.putfield 55, 3) := by decide +kernel
theorem dX6_init_90 : decode cX6_init 90 = .ok (.aload_n 0, 1) := by decide +kernel
theorem dX6_init_91 : decode cX6_init 91 = .ok (.iconst 4, 1) := by decide +kernel
theorem dX6_init_92 : decode cX6_init 92 = .ok (.putfield 59, 3) := by decide +kernel
theorem dX6_init_95 : decode cX6_init 95 = .ok (.aload_n 0, 1) := by decide +kernel
theorem dX6_init_96 : decode cX6_init 96 = .ok (.iconst 0, 1) := by decide +kernel
theorem dX6_init_97 : decode cX6_init 97 = .ok (.putfield 63, 3) := by decide +kernel
theorem dX6_init_100 : decode cX6_init 100 = .ok (.return_, 1) := by decide +kernel
theorem dX6_vats_0 : decode cX6_vats 0 = .ok (.iload_n 1, 1) := by decide +kernel
theorem dX6_vats_1 : decode cX6_vats 1 = .ok (.invokestatic 66, 3) := by decide +kernel
theorem dX6_vats_4 : decode cX6_vats 4 = .ok (.ifCond .eq 18, 3) := by decide +kernel
theorem dX6_vats_7 : decode cX6_vats 7 = .ok (.iload_n 1, 1) := by decide +kernel
theorem dX6_vats_8 : decode cX6_vats 8 = .ok (.aload_n 0, 1) := by decide +kernel
theorem dX6_vats_9 : decode cX6_vats 9 = .ok (.getfield 19, 3) := by decide +kernel
theorem dX6_vats_12 : decode cX6_vats 12 = .ok (.aload_n 0, 1) := by decide +kernel
theorem dX6_vats_13 : decode cX6_vats 13 = .ok (.getfield 63, 3) := by decide +kernel
theorem dX6_vats_16 : decode cX6_vats 16 = .ok (.invokevirtual 70, 3) := by decide +kernel
theorem dX6_vats_19 : decode cX6_vats 19 = .ok (.if_icmp .ge 6, 3) := by decide +kernel
theorem dX6_vats_22 : decode cX6_vats 22 = .ok (.bipush (-2), 2) := by decide +kernel
theorem dX6_vats_24 : decode cX6_vats 24 = .ok (.ireturn, 1) := by decide +kernel
theorem dX6_vats_25 : decode cX6_vats 25 = .ok (.aload_n 0, 1) := by decide +kernel
theorem dX6_vats_26 : decode cX6_vats 26 = .ok (.getfield 59, 3) := by decide +kernel
theorem dX6_vats_29 : decode cX6_vats 29 = .ok (.istore_n 2, 1) := by decide +kernel
theorem dX6_vats_30 : decode cX6_vats 30 = .ok (.aload_n 0, 1) := by decide +kernel
theorem dX6_vats_31 : decode cX6_vats 31 = .ok (.iload_n 1, 1) := by decide +kernel
theorem dX6_vats_32 : decode cX6_vats 32 = .ok (.putfield 59, 3) := by decide +kernel
theorem dX6_vats_35 : decode cX6_vats 35 = .ok (.aload_n 0, 1) := by decide +kernel
theorem dX6_vats_36 : decode cX6_vats 36 = .ok (.getfield 33, 3) := by decide +kernel
theorem dX6_vats_39 : decode cX6_vats 39 = .ok (.invokevirtual 74, 3) := by decide +kernel
theorem dX6_vats_42 : decode cX6_vats 42 = .ok (.iload_n 2, 1) := by decide +kernel
theorem dX6_vats_43 : decode cX6_vats 43 = .ok (.ireturn, 1) := by decide +kernel
theorem dX6_bath_0 : decode cX6_bath 0 = .ok (.iload_n 1, 1) := by decide +kernel
theorem dX6_bath_1 : decode cX6_bath 1 = .ok (.ifCond .lt 23, 3) := by decide +kernel
theorem dX6_bath_4 : decode cX6_bath 4 = .ok (.iload_n 1, 1) := by decide +kernel
theorem dX6_bath_5 : decode cX6_bath 5 = .ok (.getstatic 77, 3) := by decide +kernel
theorem dX6_bath_8 : decode cX6_bath 8 = .ok (.arraylength, 1) := by decide +kernel
theorem dX6_bath_9 : decode cX6_bath 9 = .ok (.if_icmp .ge 15, 3) := by decide +kernel
theorem dX6_bath_12 : decode cX6_bath 12 = .ok (.aload_n 0, 1) := by decide +kernel
theorem dX6_bath_13 : decode cX6_bath 13 = .ok (.getfield 19, 3) := by decide +kernel
theorem dX6_bath_16 : decode cX6_bath 16 = .ok (.getfield 80, 3) := by decide +kernel
theorem dX6_bath_19 : decode cX6_bath 19 = .ok (.bipush 9, 2) := by decide +kernel
theorem dX6_bath_21 : decode cX6_bath 21 = .ok (.if_icmp .lt 6, 3) := by decide +kernel
theorem dX6_bath_24 : decode cX6_bath 24 = .ok (.bipush (-2), 2) := by decide +kernel
theorem dX6_bath_26 : decode cX6_bath 26 = .ok (.ireturn, 1) := by decide +kernel
theorem dX6_bath_27 : decode cX6_bath 27 = .ok (.aload_n 0, 1) := by decide +kernel
theorem dX6_bath_28 : decode cX6_bath 28 = .ok (.getfield 42, 3) := by decide +kernel
theorem dX6_bath_31 : decode cX6_bath 31 = .ok (.invokevirtual 83, 3) := by decide +kernel
theorem dX6_bath_34 : decode cX6_bath 34 = .ok (.aload_n 0, 1) := by decide +kernel
theorem dX6_bath_35 : decode cX6_bath 35 = .ok (.getfield 19, 3) := by decide +kernel
theorem dX6_bath_38 : decode cX6_bath 38 = .ok (.iload_n 1, 1) := by decide +kernel
theorem dX6_bath_39 : decode cX6_bath 39 = .ok (.invokevirtual 86, 3) := by decide +kernel
theorem dX6_bath_42 : decode cX6_bath 42 = .ok (.ireturn, 1) := by decide +kernel
theorem dX6_recipe_0 : decode cX6_recipe 0 = .ok (.aload_n 0, 1) := by decide +kernel
theorem dX6_recipe_1 : decode cX6_recipe 1 = .ok (.getfield 19, 3) := by decide +kernel
theorem dX6_recipe_4 : decode cX6_recipe 4 = .ok (.iload_n 1, 1) := by decide +kernel
theorem dX6_recipe_5 : decode cX6_recipe 5 = .ok (.invokevirtual 89, 3) := by decide +kernel
theorem dX6_recipe_8 : decode cX6_recipe 8 = .ok (.ifCond .eq 22, 3) := by decide +kernel
theorem dX6_recipe_11 : decode cX6_recipe 11 = .ok (.iload_n 2, 1) := by decide +kernel
theorem dX6_recipe_12 : decode cX6_recipe 12 = .ok (.invokestatic 92, 3) := by decide +kernel
theorem dX6_recipe_15 : decode cX6_recipe 15 = .ok (.ifCond .eq 15, 3) := by decide +kernel
theorem dX6_recipe_18 : decode cX6_recipe 18 = .ok (.aload_n 0, 1) := by decide +kernel
theorem dX6_recipe_19 : decode cX6_recipe 19 = .ok (.invokevirtual 95, 3) := by decide +kernel
theorem dX6_recipe_22 : decode cX6_recipe 22 = .ok (.ifCond .ne 8, 3) := by decide +kernel
theorem dX6_recipe_25 : decode cX6_recipe 25 = .ok (.iload_n 3, 1) := by decide +kernel
theorem dX6_recipe_26 : decode cX6_recipe 26 = .ok (.iconst 4, 1) := by decide +kernel
theorem dX6_recipe_27 : decode cX6_recipe 27 = .ok (.if_icmp .le 6, 3) := by decide +kernel
theorem dX6_recipe_30 : decode cX6_recipe 30 = .ok (.bipush (-2), 2) := by decide +kernel
theorem dX6_recipe_32 : decode cX6_recipe 32 = .ok (.ireturn, 1) := by decide +kernel
theorem dX6_recipe_33 : decode cX6_recipe 33 = .ok (.iload_n 3, 1) := by decide +kernel
theorem dX6_recipe_34 : decode cX6_recipe 34 = .ok (.ifCond .ge 6, 3) := by decide +kernel
theorem dX6_recipe_37 : decode cX6_recipe 37 = .ok (.bipush (-13), 2) := by decide +kernel
theorem dX6_recipe_39 : decode cX6_recipe 39 = .ok (.ireturn, 1) := by decide +kernel
theorem dX6_recipe_40 : decode cX6_recipe 40 = .ok (.aload_n 0, 1) := by decide +kernel
theorem dX6_recipe_41 : decode cX6_recipe 41 = .ok (.getfield 12, 3) := by decide +kernel
theorem dX6_recipe_44 : decode cX6_recipe 44 = .ok (.iload_n 1, 1) := by decide +kernel
theorem dX6_recipe_45 : decode cX6_recipe 45 = .ok (.iload_n 2, 1) := by decide +kernel
theorem dX6_recipe_46 : decode cX6_recipe 46 = .ok (.iload_n 3, 1) := by decide +kernel
theorem dX6_recipe_47 : decode cX6_recipe 47 = .ok (.invokevirtual 99, 3) := by decide +kernel
theorem dX6_recipe_50 : decode cX6_recipe 50 = .ok (.aload_n 0, 1) := by decide +kernel
theorem dX6_recipe_51 : decode cX6_recipe 51 = .ok (.iload_n 1, 1) := by decide +kernel
theorem dX6_recipe_52 : decode cX6_recipe 52 = .ok (.invokevirtual 103, 3) := by decide +kernel
theorem dX6_recipe_55 : decode cX6_recipe 55 = .ok (.iload_n 3, 1) := by decide +kernel
theorem dX6_recipe_56 : decode cX6_recipe 56 = .ok (.ireturn, 1) := by decide +kernel
theorem dX6_lose_0 : decode cX6_lose 0 = .ok (.aload_n 0, 1) := by decide +kernel
theorem dX6_lose_1 : decode cX6_lose 1 = .ok (.getfield 19, 3) := by decide +kernel
theorem dX6_lose_4 : decode cX6_lose 4 = .ok (.iload_n 1, 1) := by decide +kernel
theorem dX6_lose_5 : decode cX6_lose 5 = .ok (.invokevirtual 89, 3) := by decide +kernel
theorem dX6_lose_8 : decode cX6_lose 8 = .ok (.ifCond .eq 10, 3) := by decide +kernel
theorem dX6_lose_11 : decode cX6_lose 11 = .ok (.aload_n 0, 1) := by decide +kernel
theorem dX6_lose_12 : decode cX6_lose 12 = .ok (.invokevirtual 95, 3) := by decide +kernel
theorem dX6_lose_15 : decode cX6_lose 15 = .ok (.ifCond .eq 6, 3) := by decide +kernel
theorem dX6_lose_18 : decode cX6_lose 18 = .ok (.bipush (-2), 2) := by decide +kernel
theorem dX6_lose_20 : decode cX6_lose 20 = .ok (.ireturn, 1) := by decide +kernel
theorem dX6_lose_21 : decode cX6_lose 21 = .ok (.aload_n 0, 1) := by decide +kernel
theorem dX6_lose_22 : decode cX6_lose 22 = .ok (.getfield 12, 3) := by decide +kernel
theorem dX6_lose_25 : decode cX6_lose 25 = .ok (.iload_n 1, 1) := by decide +kernel
theorem dX6_lose_26 : decode cX6_lose 26 = .ok (.invokevirtual 107, 3) := by decide +kernel
theorem dX6_lose_29 : decode cX6_lose 29 = .ok (.ifCond .eq 7, 3) := by decide +kernel
theorem dX6_lose_32 : decode cX6_lose 32 = .ok (.iconst 1, 1) := by decide +kernel
theorem dX6_lose_33 : decode cX6_lose 33 = .ok (.goto 4, 3) := by decide +kernel
theorem dX6_lose_36 : decode cX6_lose 36 = .ok (.iconst 0, 1) := by decide +kernel
theorem dX6_lose_37 : decode cX6_lose 37 = .ok (.istore_n 2, 1) := by decide +kernel
theorem dX6_lose_38 : decode cX6_lose 38 = .ok (.aload_n 0, 1) := by decide +kernel
theorem dX6_lose_39 : decode cX6_lose 39 = .ok (.getfield 12, 3) := by decide +kernel
theorem dX6_lose_42 : decode cX6_lose 42 = .ok (.iload_n 1, 1) := by decide +kernel
theorem dX6_lose_43 : decode cX6_lose 43 = .ok (.invokevirtual 110, 3) := by decide +kernel
theorem dX6_lose_46 : decode cX6_lose 46 = .ok (.aload_n 0, 1) := by decide +kernel
theorem dX6_lose_47 : decode cX6_lose 47 = .ok (.iload_n 1, 1) := by decide +kernel
theorem dX6_lose_48 : decode cX6_lose 48 = .ok (.invokevirtual 103, 3) := by decide +kernel
theorem dX6_lose_51 : decode cX6_lose 51 = .ok (.iload_n 2, 1) := by decide +kernel
theorem dX6_lose_52 : decode cX6_lose 52 = .ok (.ireturn, 1) := by decide +kernel
theorem dX6_need_0 : decode cX6_need 0 = .ok (.aload_n 0, 1) := by decide +kernel
theorem dX6_need_1 : decode cX6_need 1 = .ok (.getfield 19, 3) := by decide +kernel
theorem dX6_need_4 : decode cX6_need 4 = .ok (.iload_n 1, 1) := by decide +kernel
theorem dX6_need_5 : decode cX6_need 5 = .ok (.invokevirtual 89, 3) := by decide +kernel
theorem dX6_need_8 : decode cX6_need 8 = .ok (.ifCond .eq 26, 3) := by decide +kernel
theorem dX6_need_11 : decode cX6_need 11 = .ok (.iload_n 3, 1) := by decide +kernel
theorem dX6_need_12 : decode cX6_need 12 = .ok (.iconst (-1), 1) := by decide +kernel
theorem dX6_need_13 : decode cX6_need 13 = .ok (.if_icmp .eq 14, 3) := by decide +kernel
theorem dX6_need_16 : decode cX6_need 16 = .ok (.aload_n 0, 1) := by decide +kernel
theorem dX6_need_17 : decode cX6_need 17 = .ok (.getfield 19, 3) := by decide +kernel
theorem dX6_need_20 : decode cX6_need 20 = .ok (.iload_n 3, 1) := by decide +kernel
theorem dX6_need_21 : decode cX6_need 21 = .ok (.invokevirtual 89, 3) := by decide +kernel
theorem dX6_need_24 : decode cX6_need 24 = .ok (.ifCond .eq 10, 3) := by decide +kernel
theorem dX6_need_27 : decode cX6_need 27 = .ok (.aload_n 0, 1) := by decide +kernel
theorem dX6_need_28 : decode cX6_need 28 = .ok (.invokevirtual 95, 3) := by decide +kernel
theorem dX6_need_31 : decode cX6_need 31 = .ok (.ifCond .eq 6, 3) := by decide +kernel
theorem dX6_need_34 : decode cX6_need 34 = .ok (.bipush (-2), 2) := by decide +kernel
theorem dX6_need_36 : decode cX6_need 36 = .ok (.ireturn, 1) := by decide +kernel
theorem dX6_need_37 : decode cX6_need 37 = .ok (.aload_n 0, 1) := by decide +kernel
theorem dX6_need_38 : decode cX6_need 38 = .ok (.getfield 12, 3) := by decide +kernel
theorem dX6_need_41 : decode cX6_need 41 = .ok (.iload_n 1, 1) := by decide +kernel
theorem dX6_need_42 : decode cX6_need 42 = .ok (.invokevirtual 107, 3) := by decide +kernel
theorem dX6_need_45 : decode cX6_need 45 = .ok (.ifCond .ne 6, 3) := by decide +kernel
theorem dX6_need_48 : decode cX6_need 48 = .ok (.bipush (-10), 2) := by decide +kernel
theorem dX6_need_50 : decode cX6_need 50 = .ok (.ireturn, 1) := by decide +kernel
theorem dX6_need_51 : decode cX6_need 51 = .ok (.aload_n 0, 1) := by decide +kernel
theorem dX6_need_52 : decode cX6_need 52 = .ok (.getfield 12, 3) := by decide +kernel
theorem dX6_need_55 : decode cX6_need 55 = .ok (.iload_n 1, 1) := by decide +kernel
theorem dX6_need_56 : decode cX6_need 56 = .ok (.iload_n 2, 1) := by decide +kernel
theorem dX6_need_57 : decode cX6_need 57 = .ok (.invokevirtual 113, 3) := by decide +kernel
theorem dX6_need_60 : decode cX6_need 60 = .ok (.ifCond .ne 6, 3) := by decide +kernel
theorem dX6_need_63 : decode cX6_need 63 = .ok (.bipush (-11), 2) := by decide +kernel
theorem dX6_need_65 : decode cX6_need 65 = .ok (.ireturn, 1) := by decide +kernel
theorem dX6_need_66 : decode cX6_need 66 = .ok (.iload_n 3, 1) := by decide +kernel
theorem dX6_need_67 : decode cX6_need 67 = .ok (.iconst (-1), 1) := by decide +kernel
theorem dX6_need_68 : decode cX6_need 68 = .ok (.if_icmp .eq 25, 3) := by decide +kernel
theorem dX6_need_71 : decode cX6_need 71 = .ok (.aload_n 0, 1) := by decide +kernel
theorem dX6_need_72 : decode cX6_need 72 = .ok (.getfield 26, 3) := by decide +kernel
theorem dX6_need_75 : decode cX6_need 75 = .ok (.aload_n 0, 1) := by decide +kernel
theorem dX6_need_76 : decode cX6_need 76 = .ok (.getfield 19, 3) := by decide +kernel
theorem dX6_need_79 : decode cX6_need 79 = .ok (.getfield 117, 3) := by decide +kernel
theorem dX6_need_82 : decode cX6_need 82 = .ok (.iload_n 1, 1) := by decide +kernel
theorem dX6_need_83 : decode cX6_need 83 = .ok (.iload_n 3, 1) := by decide +kernel
theorem dX6_need_84 : decode cX6_need 84 = .ok (.invokevirtual 120, 3) := by decide +kernel
theorem dX6_need_87 : decode cX6_need 87 = .ok (.ifCond .eq 6, 3) := by decide +kernel
theorem dX6_need_90 : decode cX6_need 90 = .ok (.bipush (-3), 2) := by decide +kernel
theorem dX6_need_92 : decode cX6_need 92 = .ok (.ireturn, 1) := by decide +kernel
theorem dX6_need_93 : decode cX6_need 93 = .ok (.aload_n 0, 1) := by decide +kernel
theorem dX6_need_94 : decode cX6_need 94 = .ok (.getfield 12, 3) := by decide +kernel
theorem dX6_need_97 : decode cX6_need 97 = .ok (.iload_n 1, 1) := by decide +kernel
theorem dX6_need_98 : decode cX6_need 98 = .ok (.iload_n 2, 1) := by decide +kernel
theorem dX6_need_99 : decode cX6_need 99 = .ok (.invokevirtual 124, 3) := by decide +kernel
theorem dX6_need_102 : decode cX6_need 102 = .ok (.istore 4, 2) := by decide +kernel
theorem dX6_need_104 : decode cX6_need 104 = .ok (.aload_n 0, 1) := by decide +kernel
theorem dX6_need_105 : decode cX6_need 105 = .ok (.getfield 12, 3) := by decide +kernel
theorem dX6_need_108 : decode cX6_need 108 = .ok (.iload_n 1, 1) := by decide +kernel
theorem dX6_need_109 : decode cX6_need 109 = .ok (.iload_n 2, 1) := by decide +kernel
theorem dX6_need_110 : decode cX6_need 110 = .ok (.iload_n 3, 1) := by decide +kernel
theorem dX6_need_111 : decode cX6_need 111 = .ok (.invokevirtual 128, 3) := by decide +kernel
theorem dX6_need_114 : decode cX6_need 114 = .ok (.aload_n 0, 1) := by decide +kernel
theorem dX6_need_115 : decode cX6_need 115 = .ok (.iload_n 1, 1) := by decide +kernel
theorem dX6_need_116 : decode cX6_need 116 = .ok (.invokevirtual 103, 3) := by decide +kernel
theorem dX6_need_119 : decode cX6_need 119 = .ok (.iload 4, 2) := by decide +kernel
theorem dX6_need_121 : decode cX6_need 121 = .ok (.ireturn, 1) := by decide +kernel
theorem dX6_named_0 : decode cX6_named 0 = .ok (.aload_n 0, 1) := by decide +kernel
theorem dX6_named_1 : decode cX6_named 1 = .ok (.getfield 19, 3) := by decide +kernel
theorem dX6_named_4 : decode cX6_named 4 = .ok (.iload_n 1, 1) := by decide +kernel
theorem dX6_named_5 : decode cX6_named 5 = .ok (.invokevirtual 89, 3) := by decide +kernel
theorem dX6_named_8 : decode cX6_named 8 = .ok (.ifCond .eq 10, 3) := by decide +kernel
theorem dX6_named_11 : decode cX6_named 11 = .ok (.iload_n 2, 1) := by decide +kernel
theorem dX6_named_12 : decode cX6_named 12 = .ok (.invokestatic 92, 3) := by decide +kernel
theorem dX6_named_15 : decode cX6_named 15 = .ok (.ifCond .ne 6, 3) := by decide +kernel
theorem dX6_named_18 : decode cX6_named 18 = .ok (.bipush (-2), 2) := by decide +kernel
theorem dX6_named_20 : decode cX6_named 20 = .ok (.ireturn, 1) := by decide +kernel
theorem dX6_named_21 : decode cX6_named 21 = .ok (.aload_n 0, 1) := by decide +kernel
theorem dX6_named_22 : decode cX6_named 22 = .ok (.getfield 12, 3) := by decide +kernel
theorem dX6_named_25 : decode cX6_named 25 = .ok (.iload_n 1, 1) := by decide +kernel
theorem dX6_named_26 : decode cX6_named 26 = .ok (.invokevirtual 107, 3) := by decide +kernel
theorem dX6_named_29 : decode cX6_named 29 = .ok (.ifCond .ne 6, 3) := by decide +kernel
theorem dX6_named_32 : decode cX6_named 32 = .ok (.bipush (-10), 2) := by decide +kernel
theorem dX6_named_34 : decode cX6_named 34 = .ok (.ireturn, 1) := by decide +kernel
theorem dX6_named_35 : decode cX6_named 35 = .ok (.aload_n 0, 1) := by decide +kernel
theorem dX6_named_36 : decode cX6_named 36 = .ok (.getfield 12, 3) := by decide +kernel
theorem dX6_named_39 : decode cX6_named 39 = .ok (.getfield 131, 3) := by decide +kernel
theorem dX6_named_42 : decode cX6_named 42 = .ok (.iload_n 1, 1) := by decide +kernel
theorem dX6_named_43 : decode cX6_named 43 = .ok (.iaload, 1) := by decide +kernel
theorem dX6_named_44 : decode cX6_named 44 = .ok (.iload_n 2, 1) := by decide +kernel
theorem dX6_named_45 : decode cX6_named 45 = .ok (.if_icmp .eq 6, 3) := by decide +kernel
theorem dX6_named_48 : decode cX6_named 48 = .ok (.bipush (-12), 2) := by decide +kernel
theorem dX6_named_50 : decode cX6_named 50 = .ok (.ireturn, 1) := by decide +kernel
theorem dX6_named_51 : decode cX6_named 51 = .ok (.aload_n 0, 1) := by decide +kernel
theorem dX6_named_52 : decode cX6_named 52 = .ok (.getfield 12, 3) := by decide +kernel
theorem dX6_named_55 : decode cX6_named 55 = .ok (.iload_n 1, 1) := by decide +kernel
theorem dX6_named_56 : decode cX6_named 56 = .ok (.iload_n 3, 1) := by decide +kernel
theorem dX6_named_57 : decode cX6_named 57 = .ok (.invokevirtual 113, 3) := by decide +kernel
theorem dX6_named_60 : decode cX6_named 60 = .ok (.ifCond .eq 15, 3) := by decide +kernel
theorem dX6_named_63 : decode cX6_named 63 = .ok (.aload_n 0, 1) := by decide +kernel
theorem dX6_named_64 : decode cX6_named 64 = .ok (.getfield 12, 3) := by decide +kernel
theorem dX6_named_67 : decode cX6_named 67 = .ok (.iload_n 1, 1) := by decide +kernel
theorem dX6_named_68 : decode cX6_named 68 = .ok (.iload_n 3, 1) := by decide +kernel
theorem dX6_named_69 : decode cX6_named 69 = .ok (.invokevirtual 124, 3) := by decide +kernel
theorem dX6_named_72 : decode cX6_named 72 = .ok (.goto 5, 3) := by decide +kernel
theorem dX6_named_75 : decode cX6_named 75 = .ok (.bipush (-11), 2) := by decide +kernel
theorem dX6_named_77 : decode cX6_named 77 = .ok (.ireturn, 1) := by decide +kernel
theorem dX6_ring_0 : decode cX6_ring 0 = .ok (.iload_n 1, 1) := by decide +kernel
theorem dX6_ring_1 : decode cX6_ring 1 = .ok (.ifCond .lt 14, 3) := by decide +kernel
theorem dX6_ring_4 : decode cX6_ring 4 = .ok (.iload_n 1, 1) := by decide +kernel
theorem dX6_ring_5 : decode cX6_ring 5 = .ok (.aload_n 0, 1) := by decide +kernel
theorem dX6_ring_6 : decode cX6_ring 6 = .ok (.getfield 26, 3) := by decide +kernel
theorem dX6_ring_9 : decode cX6_ring 9 = .ok (.getfield 134, 3) := by decide +kernel
theorem dX6_ring_12 : decode cX6_ring 12 = .ok (.if_icmp .lt 7, 3) := by decide +kernel
theorem dX6_ring_15 : decode cX6_ring 15 = .ok (.iconst (-1), 1) := by decide +kernel
theorem dX6_ring_16 : decode cX6_ring 16 = .ok (.goto 12, 3) := by decide +kernel
theorem dX6_ring_19 : decode cX6_ring 19 = .ok (.aload_n 0, 1) := by decide +kernel
theorem dX6_ring_20 : decode cX6_ring 20 = .ok (.getfield 26, 3) := by decide +kernel
theorem dX6_ring_23 : decode cX6_ring 23 = .ok (.getfield 137, 3) := by decide +kernel
theorem dX6_ring_26 : decode cX6_ring 26 = .ok (.iload_n 1, 1) := by decide +kernel
theorem dX6_ring_27 : decode cX6_ring 27 = .ok (.iaload, 1) := by decide +kernel
theorem dX6_ring_28 : decode cX6_ring 28 = .ok (.ireturn, 1) := by decide +kernel
theorem dX6_order_0 : decode cX6_order 0 = .ok (.aload_n 0, 1) := by decide +kernel
theorem dX6_order_1 : decode cX6_order 1 = .ok (.getfield 19, 3) := by decide +kernel
theorem dX6_order_4 : decode cX6_order 4 = .ok (.iload_n 1, 1) := by decide +kernel
theorem dX6_order_5 : decode cX6_order 5 = .ok (.invokevirtual 89, 3) := by decide +kernel
theorem dX6_order_8 : decode cX6_order 8 = .ok (.ifCond .ne 5, 3) := by decide +kernel
theorem dX6_order_11 : decode cX6_order 11 = .ok (.iconst (-1), 1) := by decide +kernel
theorem dX6_order_12 : decode cX6_order 12 = .ok (.ireturn, 1) := by decide +kernel
theorem dX6_order_13 : decode cX6_order 13 = .ok (.iconst 0, 1) := by decide +kernel
theorem dX6_order_14 : decode cX6_order 14 = .ok (.istore_n 2, 1) := by decide +kernel
theorem dX6_order_15 : decode cX6_order 15 = .ok (.iconst (-1), 1) := by decide +kernel
theorem dX6_order_16 : decode cX6_order 16 = .ok (.istore_n 3, 1) := by decide +kernel
theorem dX6_order_17 : decode cX6_order 17 = .ok (.iconst 0, 1) := by decide +kernel
theorem dX6_order_18 : decode cX6_order 18 = .ok (.istore 4, 2) := by decide +kernel
theorem dX6_order_20 : decode cX6_order 20 = .ok (.iload 4, 2) := by decide +kernel
theorem dX6_order_22 : decode cX6_order 22 = .ok (.iload_n 1, 1) := by decide +kernel
theorem dX6_order_23 : decode cX6_order 23 = .ok (.if_icmp .gt 31, 3) := by decide +kernel
theorem dX6_order_26 : decode cX6_order 26 = .ok (.aload_n 0, 1) := by decide +kernel
theorem dX6_order_27 : decode cX6_order 27 = .ok (.getfield 19, 3) := by decide +kernel
theorem dX6_order_30 : decode cX6_order 30 = .ok (.iload_n 2, 1) := by decide +kernel
theorem dX6_order_31 : decode cX6_order 31 = .ok (.invokevirtual 139, 3) := by decide +kernel
theorem dX6_order_34 : decode cX6_order 34 = .ok (.istore_n 3, 1) := by decide +kernel
theorem dX6_order_35 : decode cX6_order 35 = .ok (.iload_n 3, 1) := by decide +kernel
theorem dX6_order_36 : decode cX6_order 36 = .ok (.iconst (-1), 1) := by decide +kernel
theorem dX6_order_37 : decode cX6_order 37 = .ok (.if_icmp .ne 5, 3) := by decide +kernel
theorem dX6_order_40 : decode cX6_order 40 = .ok (.iconst (-1), 1) := by decide +kernel
theorem dX6_order_41 : decode cX6_order 41 = .ok (.ireturn, 1) := by decide +kernel
theorem dX6_order_42 : decode cX6_order 42 = .ok (.iload_n 2, 1) := by decide +kernel
theorem dX6_order_43 : decode cX6_order 43 = .ok (.iconst 1, 1) := by decide +kernel
theorem dX6_order_44 : decode cX6_order 44 = .ok (.iload_n 3, 1) := by decide +kernel
theorem dX6_order_45 : decode cX6_order 45 = .ok (.ishl, 1) := by decide +kernel
theorem dX6_order_46 : decode cX6_order 46 = .ok (.ior, 1) := by decide +kernel
theorem dX6_order_47 : decode cX6_order 47 = .ok (.istore_n 2, 1) := by decide +kernel
theorem dX6_order_48 : decode cX6_order 48 = .ok (.iinc 4 1, 3) := by decide +kernel
theorem dX6_order_51 : decode cX6_order 51 = .ok (.goto (-31), 3) := by decide +kernel
theorem dX6_order_54 : decode cX6_order 54 = .ok (.iload_n 3, 1) := by decide +kernel
theorem dX6_order_55 : decode cX6_order 55 = .ok (.ireturn, 1) := by decide +kernel
theorem dX6_goal_0 : decode cX6_goal 0 = .ok (.aload_n 0, 1) := by decide +kernel
theorem dX6_goal_1 : decode cX6_goal 1 = .ok (.getfield 19, 3) := by decide +kernel
theorem dX6_goal_4 : decode cX6_goal 4 = .ok (.iload_n 1, 1) := by decide +kernel
theorem dX6_goal_5 : decode cX6_goal 5 = .ok (.invokevirtual 89, 3) := by decide +kernel
theorem dX6_goal_8 : decode cX6_goal 8 = .ok (.ifCond .eq 25, 3) := by decide +kernel
theorem dX6_goal_11 : decode cX6_goal 11 = .ok (.aload_n 0, 1) := by decide +kernel
theorem dX6_goal_12 : decode cX6_goal 12 = .ok (.getfield 19, 3) := by decide +kernel
theorem dX6_goal_15 : decode cX6_goal 15 = .ok (.iload_n 1, 1) := by decide +kernel
theorem dX6_goal_16 : decode cX6_goal 16 = .ok (.invokevirtual 142, 3) := by decide +kernel
theorem dX6_goal_19 : decode cX6_goal 19 = .ok (.ifCond .ne 14, 3) := by decide +kernel
theorem dX6_goal_22 : decode cX6_goal 22 = .ok (.aload_n 0, 1) := by decide +kernel
theorem dX6_goal_23 : decode cX6_goal 23 = .ok (.getfield 19, 3) := by decide +kernel
theorem dX6_goal_26 : decode cX6_goal 26 = .ok (.getfield 145, 3) := by decide +kernel
theorem dX6_goal_29 : decode cX6_goal 29 = .ok (.iconst 3, 1) := by decide +kernel
theorem dX6_goal_30 : decode cX6_goal 30 = .ok (.if_icmp .lt 6, 3) := by decide +kernel
theorem dX6_goal_33 : decode cX6_goal 33 = .ok (.bipush (-2), 2) := by decide +kernel
theorem dX6_goal_35 : decode cX6_goal 35 = .ok (.ireturn, 1) := by decide +kernel
theorem dX6_goal_36 : decode cX6_goal 36 = .ok (.aload_n 0, 1) := by decide +kernel
theorem dX6_goal_37 : decode cX6_goal 37 = .ok (.getfield 42, 3) := by decide +kernel
theorem dX6_goal_40 : decode cX6_goal 40 = .ok (.invokevirtual 83, 3) := by decide +kernel
theorem dX6_goal_43 : decode cX6_goal 43 = .ok (.aload_n 0, 1) := by decide +kernel
theorem dX6_goal_44 : decode cX6_goal 44 = .ok (.getfield 19, 3) := by decide +kernel
theorem dX6_goal_47 : decode cX6_goal 47 = .ok (.iload_n 1, 1) := by decide +kernel
theorem dX6_goal_48 : decode cX6_goal 48 = .ok (.invokevirtual 148, 3) := by decide +kernel
theorem dX6_goal_51 : decode cX6_goal 51 = .ok (.ireturn, 1) := by decide +kernel
theorem dX6_forget_0 : decode cX6_forget 0 = .ok (.aload_n 0, 1) := by decide +kernel
theorem dX6_forget_1 : decode cX6_forget 1 = .ok (.getfield 19, 3) := by decide +kernel
theorem dX6_forget_4 : decode cX6_forget 4 = .ok (.getfield 145, 3) := by decide +kernel
theorem dX6_forget_7 : decode cX6_forget 7 = .ok (.istore_n 1, 1) := by decide +kernel
theorem dX6_forget_8 : decode cX6_forget 8 = .ok (.aload_n 0, 1) := by decide +kernel
theorem dX6_forget_9 : decode cX6_forget 9 = .ok (.getfield 19, 3) := by decide +kernel
theorem dX6_forget_12 : decode cX6_forget 12 = .ok (.invokevirtual 151, 3) := by decide +kernel
theorem dX6_forget_15 : decode cX6_forget 15 = .ok (.aload_n 0, 1) := by decide +kernel
theorem dX6_forget_16 : decode cX6_forget 16 = .ok (.getfield 42, 3) := by decide +kernel
theorem dX6_forget_19 : decode cX6_forget 19 = .ok (.invokevirtual 83, 3) := by decide +kernel
theorem dX6_forget_22 : decode cX6_forget 22 = .ok (.iload_n 1, 1) := by decide +kernel
theorem dX6_forget_23 : decode cX6_forget 23 = .ok (.ireturn, 1) := by decide +kernel
theorem dX6_together_0 : decode cX6_together 0 = .ok (.aload_n 0, 1) := by decide +kernel
theorem dX6_together_1 : decode cX6_together 1 = .ok (.getfield 19, 3) := by decide +kernel
theorem dX6_together_4 : decode cX6_together 4 = .ok (.getfield 154, 3) := by decide +kernel
theorem dX6_together_7 : decode cX6_together 7 = .ok (.ifCond .eq 7, 3) := by decide +kernel
theorem dX6_together_10 : decode cX6_together 10 = .ok (.iconst 1, 1) := by decide +kernel
theorem dX6_together_11 : decode cX6_together 11 = .ok (.goto 4, 3) := by decide +kernel
theorem dX6_together_14 : decode cX6_together 14 = .ok (.iconst 0, 1) := by decide +kernel
theorem dX6_together_15 : decode cX6_together 15 = .ok (.istore_n 2, 1) := by decide +kernel
theorem dX6_together_16 : decode cX6_together 16 = .ok (.aload_n 0, 1) := by decide +kernel
theorem dX6_together_17 : decode cX6_together 17 = .ok (.getfield 19, 3) := by decide +kernel
theorem dX6_together_20 : decode cX6_together 20 = .ok (.iload_n 1, 1) := by decide +kernel
theorem dX6_together_21 : decode cX6_together 21 = .ok (.putfield 154, 3) := by decide +kernel
theorem dX6_together_24 : decode cX6_together 24 = .ok (.aload_n 0, 1) := by decide +kernel
theorem dX6_together_25 : decode cX6_together 25 = .ok (.getfield 42, 3) := by decide +kernel
theorem dX6_together_28 : decode cX6_together 28 = .ok (.invokevirtual 83, 3) := by decide +kernel
theorem dX6_together_31 : decode cX6_together 31 = .ok (.iload_n 2, 1) := by decide +kernel
theorem dX6_together_32 : decode cX6_together 32 = .ok (.ireturn, 1) := by decide +kernel
theorem dX6_make_0 : decode cX6_make 0 = .ok (.aload_n 0, 1) := by decide +kernel
theorem dX6_make_1 : decode cX6_make 1 = .ok (.getfield 19, 3) := by decide +kernel
theorem dX6_make_4 : decode cX6_make 4 = .ok (.iload_n 1, 1) := by decide +kernel
theorem dX6_make_5 : decode cX6_make 5 = .ok (.invokevirtual 89, 3) := by decide +kernel
theorem dX6_make_8 : decode cX6_make 8 = .ok (.ifCond .eq 22, 3) := by decide +kernel
theorem dX6_make_11 : decode cX6_make 11 = .ok (.aload_n 0, 1) := by decide +kernel
theorem dX6_make_12 : decode cX6_make 12 = .ok (.getfield 19, 3) := by decide +kernel
theorem dX6_make_15 : decode cX6_make 15 = .ok (.iload_n 1, 1) := by decide +kernel
theorem dX6_make_16 : decode cX6_make 16 = .ok (.aload_n 0, 1) := by decide +kernel
theorem dX6_make_17 : decode cX6_make 17 = .ok (.getfield 63, 3) := by decide +kernel
theorem dX6_make_20 : decode cX6_make 20 = .ok (.aload_n 0, 1) := by decide +kernel
theorem dX6_make_21 : decode cX6_make 21 = .ok (.getfield 59, 3) := by decide +kernel
theorem dX6_make_24 : decode cX6_make 24 = .ok (.invokevirtual 158, 3) := by decide +kernel
theorem dX6_make_27 : decode cX6_make 27 = .ok (.ifCond .eq 6, 3) := by decide +kernel
theorem dX6_make_30 : decode cX6_make 30 = .ok (.bipush (-2), 2) := by decide +kernel
theorem dX6_make_32 : decode cX6_make 32 = .ok (.ireturn, 1) := by decide +kernel
theorem dX6_make_33 : decode cX6_make 33 = .ok (.aload_n 0, 1) := by decide +kernel
theorem dX6_make_34 : decode cX6_make 34 = .ok (.getfield 33, 3) := by decide +kernel
theorem dX6_make_37 : decode cX6_make 37 = .ok (.aload_n 0, 1) := by decide +kernel
theorem dX6_make_38 : decode cX6_make 38 = .ok (.getfield 63, 3) := by decide +kernel
theorem dX6_make_41 : decode cX6_make 41 = .ok (.iload_n 1, 1) := by decide +kernel
theorem dX6_make_42 : decode cX6_make 42 = .ok (.invokevirtual 162, 3) := by decide +kernel
theorem dX6_make_45 : decode cX6_make 45 = .ok (.aload_n 0, 1) := by decide +kernel
theorem dX6_make_46 : decode cX6_make 46 = .ok (.getfield 55, 3) := by decide +kernel
theorem dX6_make_49 : decode cX6_make 49 = .ok (.iload_n 1, 1) := by decide +kernel
theorem dX6_make_50 : decode cX6_make 50 = .ok (.dup2, 1) := by decide +kernel
theorem dX6_make_51 : decode cX6_make 51 = .ok (.iaload, 1) := by decide +kernel
theorem dX6_make_52 : decode cX6_make 52 = .ok (.iconst 1, 1) := by decide +kernel
theorem dX6_make_53 : decode cX6_make 53 = .ok (.iadd, 1) := by decide +kernel
theorem dX6_make_54 : decode cX6_make 54 = .ok (.iastore, 1) := by decide +kernel
theorem dX6_make_55 : decode cX6_make 55 = .ok (.aload_n 0, 1) := by decide +kernel
theorem dX6_make_56 : decode cX6_make 56 = .ok (.aload_n 0, 1) := by decide +kernel
theorem dX6_make_57 : decode cX6_make 57 = .ok (.getfield 19, 3) := by decide +kernel
theorem dX6_make_60 : decode cX6_make 60 = .ok (.iload_n 1, 1) := by decide +kernel
theorem dX6_make_61 : decode cX6_make 61 = .ok (.aload_n 0, 1) := by decide +kernel
theorem dX6_make_62 : decode cX6_make 62 = .ok (.getfield 63, 3) := by decide +kernel
theorem dX6_make_65 : decode cX6_make 65 = .ok (.invokevirtual 166, 3) := by decide +kernel
theorem dX6_make_68 : decode cX6_make 68 = .ok (.putfield 63, 3) := by decide +kernel
theorem dX6_make_71 : decode cX6_make 71 = .ok (.aload_n 0, 1) := by decide +kernel
theorem dX6_make_72 : decode cX6_make 72 = .ok (.invokevirtual 169, 3) := by decide +kernel
theorem dX6_make_75 : decode cX6_make 75 = .ok (.ireturn, 1) := by decide +kernel
theorem dX6_why_0 : decode cX6_why 0 = .ok (.aload_n 0, 1) := by decide +kernel
theorem dX6_why_1 : decode cX6_why 1 = .ok (.getfield 19, 3) := by decide +kernel
theorem dX6_why_4 : decode cX6_why 4 = .ok (.iload_n 1, 1) := by decide +kernel
theorem dX6_why_5 : decode cX6_why 5 = .ok (.invokevirtual 89, 3) := by decide +kernel
theorem dX6_why_8 : decode cX6_why 8 = .ok (.ifCond .eq 22, 3) := by decide +kernel
theorem dX6_why_11 : decode cX6_why 11 = .ok (.aload_n 0, 1) := by decide +kernel
theorem dX6_why_12 : decode cX6_why 12 = .ok (.getfield 19, 3) := by decide +kernel
theorem dX6_why_15 : decode cX6_why 15 = .ok (.iload_n 1, 1) := by decide +kernel
theorem dX6_why_16 : decode cX6_why 16 = .ok (.aload_n 0, 1) := by decide +kernel
theorem dX6_why_17 : decode cX6_why 17 = .ok (.getfield 63, 3) := by decide +kernel
theorem dX6_why_20 : decode cX6_why 20 = .ok (.aload_n 0, 1) := by decide +kernel
theorem dX6_why_21 : decode cX6_why 21 = .ok (.getfield 59, 3) := by decide +kernel
theorem dX6_why_24 : decode cX6_why 24 = .ok (.invokevirtual 158, 3) := by decide +kernel
theorem dX6_why_27 : decode cX6_why 27 = .ok (.goto 5, 3) := by decide +kernel
theorem dX6_why_30 : decode cX6_why 30 = .ok (.bipush (-2), 2) := by decide +kernel
theorem dX6_why_32 : decode cX6_why 32 = .ok (.ireturn, 1) := by decide +kernel
theorem dX6_pour_0 : decode cX6_pour 0 = .ok (.aload_n 0, 1) := by decide +kernel
theorem dX6_pour_1 : decode cX6_pour 1 = .ok (.getfield 19, 3) := by decide +kernel
theorem dX6_pour_4 : decode cX6_pour 4 = .ok (.iload_n 1, 1) := by decide +kernel
theorem dX6_pour_5 : decode cX6_pour 5 = .ok (.invokevirtual 89, 3) := by decide +kernel
theorem dX6_pour_8 : decode cX6_pour 8 = .ok (.ifCond .eq 14, 3) := by decide +kernel
theorem dX6_pour_11 : decode cX6_pour 11 = .ok (.iload_n 1, 1) := by decide +kernel
theorem dX6_pour_12 : decode cX6_pour 12 = .ok (.aload_n 0, 1) := by decide +kernel
theorem dX6_pour_13 : decode cX6_pour 13 = .ok (.getfield 63, 3) := by decide +kernel
theorem dX6_pour_16 : decode cX6_pour 16 = .ok (.invokestatic 173, 3) := by decide +kernel
theorem dX6_pour_19 : decode cX6_pour 19 = .ok (.ifCond .ne 6, 3) := by decide +kernel
theorem dX6_pour_22 : decode cX6_pour 22 = .ok (.bipush (-2), 2) := by decide +kernel
theorem dX6_pour_24 : decode cX6_pour 24 = .ok (.ireturn, 1) := by decide +kernel
theorem dX6_pour_25 : decode cX6_pour 25 = .ok (.aload_n 0, 1) := by decide +kernel
theorem dX6_pour_26 : decode cX6_pour 26 = .ok (.getfield 33, 3) := by decide +kernel
theorem dX6_pour_29 : decode cX6_pour 29 = .ok (.aload_n 0, 1) := by decide +kernel
theorem dX6_pour_30 : decode cX6_pour 30 = .ok (.getfield 63, 3) := by decide +kernel
theorem dX6_pour_33 : decode cX6_pour 33 = .ok (.iconst (-1), 1) := by decide +kernel
theorem dX6_pour_34 : decode cX6_pour 34 = .ok (.invokevirtual 162, 3) := by decide +kernel
theorem dX6_pour_37 : decode cX6_pour 37 = .ok (.aload_n 0, 1) := by decide +kernel
theorem dX6_pour_38 : decode cX6_pour 38 = .ok (.iload_n 1, 1) := by decide +kernel
theorem dX6_pour_39 : decode cX6_pour 39 = .ok (.aload_n 0, 1) := by decide +kernel
theorem dX6_pour_40 : decode cX6_pour 40 = .ok (.getfield 63, 3) := by decide +kernel
theorem dX6_pour_43 : decode cX6_pour 43 = .ok (.invokestatic 176, 3) := by decide +kernel
theorem dX6_pour_46 : decode cX6_pour 46 = .ok (.putfield 63, 3) := by decide +kernel
theorem dX6_pour_49 : decode cX6_pour 49 = .ok (.aload_n 0, 1) := by decide +kernel
theorem dX6_pour_50 : decode cX6_pour 50 = .ok (.invokevirtual 169, 3) := by decide +kernel
theorem dX6_pour_53 : decode cX6_pour 53 = .ok (.ireturn, 1) := by decide +kernel
theorem dX6_undo_0 : decode cX6_undo 0 = .ok (.aload_n 0, 1) := by decide +kernel
theorem dX6_undo_1 : decode cX6_undo 1 = .ok (.getfield 33, 3) := by decide +kernel
theorem dX6_undo_4 : decode cX6_undo 4 = .ok (.getfield 179, 3) := by decide +kernel
theorem dX6_undo_7 : decode cX6_undo 7 = .ok (.ifCond .ne 6, 3) := by decide +kernel
theorem dX6_undo_10 : decode cX6_undo 10 = .ok (.bipush (-2), 2) := by decide +kernel
theorem dX6_undo_12 : decode cX6_undo 12 = .ok (.ireturn, 1) := by decide +kernel
theorem dX6_undo_13 : decode cX6_undo 13 = .ok (.aload_n 0, 1) := by decide +kernel
theorem dX6_undo_14 : decode cX6_undo 14 = .ok (.getfield 33, 3) := by decide +kernel
theorem dX6_undo_17 : decode cX6_undo 17 = .ok (.invokevirtual 182, 3) := by decide +kernel
theorem dX6_undo_20 : decode cX6_undo 20 = .ok (.aload_n 0, 1) := by decide +kernel
theorem dX6_undo_21 : decode cX6_undo 21 = .ok (.getfield 33, 3) := by decide +kernel
theorem dX6_undo_24 : decode cX6_undo 24 = .ok (.invokevirtual 185, 3) := by decide +kernel
theorem dX6_undo_27 : decode cX6_undo 27 = .ok (.istore_n 1, 1) := by decide +kernel
theorem dX6_undo_28 : decode cX6_undo 28 = .ok (.iload_n 1, 1) := by decide +kernel
theorem dX6_undo_29 : decode cX6_undo 29 = .ok (.iconst (-1), 1) := by decide +kernel
theorem dX6_undo_30 : decode cX6_undo 30 = .ok (.if_icmp .eq 13, 3) := by decide +kernel
theorem dX6_undo_33 : decode cX6_undo 33 = .ok (.aload_n 0, 1) := by decide +kernel
theorem dX6_undo_34 : decode cX6_undo 34 = .ok (.getfield 55, 3) := by decide +kernel
theorem dX6_undo_37 : decode cX6_undo 37 = .ok (.iload_n 1, 1) := by decide +kernel
theorem dX6_undo_38 : decode cX6_undo 38 = .ok (.dup2, 1) := by decide +kernel
theorem dX6_undo_39 : decode cX6_undo 39 = .ok (.iaload, 1) := by decide +kernel
theorem dX6_undo_40 : decode cX6_undo 40 = .ok (.iconst 1, 1) := by decide +kernel
theorem dX6_undo_41 : decode cX6_undo 41 = .ok (.isub, 1) := by decide +kernel
theorem dX6_undo_42 : decode cX6_undo 42 = .ok (.iastore, 1) := by decide +kernel
theorem dX6_undo_43 : decode cX6_undo 43 = .ok (.aload_n 0, 1) := by decide +kernel
theorem dX6_undo_44 : decode cX6_undo 44 = .ok (.aload_n 0, 1) := by decide +kernel
theorem dX6_undo_45 : decode cX6_undo 45 = .ok (.getfield 33, 3) := by decide +kernel
theorem dX6_undo_48 : decode cX6_undo 48 = .ok (.invokevirtual 188, 3) := by decide +kernel
theorem dX6_undo_51 : decode cX6_undo 51 = .ok (.putfield 63, 3) := by decide +kernel
theorem dX6_undo_54 : decode cX6_undo 54 = .ok (.aload_n 0, 1) := by decide +kernel
theorem dX6_undo_55 : decode cX6_undo 55 = .ok (.getfield 33, 3) := by decide +kernel
theorem dX6_undo_58 : decode cX6_undo 58 = .ok (.getfield 179, 3) := by decide +kernel
theorem dX6_undo_61 : decode cX6_undo 61 = .ok (.ireturn, 1) := by decide +kernel
theorem dX6_of_0 : decode cX6_of 0 = .ok (.aload_n 0, 1) := by decide +kernel
theorem dX6_of_1 : decode cX6_of 1 = .ok (.getfield 19, 3) := by decide +kernel
theorem dX6_of_4 : decode cX6_of 4 = .ok (.iload_n 1, 1) := by decide +kernel
theorem dX6_of_5 : decode cX6_of 5 = .ok (.invokevirtual 89, 3) := by decide +kernel
theorem dX6_of_8 : decode cX6_of 8 = .ok (.ifCond .ne 6, 3) := by decide +kernel
theorem dX6_of_11 : decode cX6_of 11 = .ok (.bipush (-2), 2) := by decide +kernel
theorem dX6_of_13 : decode cX6_of 13 = .ok (.ireturn, 1) := by decide +kernel
theorem dX6_of_14 : decode cX6_of 14 = .ok (.iload_n 2, 1) := by decide +kernel
theorem dX6_of_15 : decode cX6_of 15 = .ok (.tableswitch 129 0 6 #[41, 51, 68, 88, 98, 108, 115], 41) := by decide +kernel
theorem dX6_of_56 : decode cX6_of 56 = .ok (.aload_n 0, 1) := by decide +kernel
theorem dX6_of_57 : decode cX6_of 57 = .ok (.getfield 19, 3) := by decide +kernel
theorem dX6_of_60 : decode cX6_of 60 = .ok (.getfield 191, 3) := by decide +kernel
theorem dX6_of_63 : decode cX6_of 63 = .ok (.iload_n 1, 1) := by decide +kernel
theorem dX6_of_64 : decode cX6_of 64 = .ok (.iaload, 1) := by decide +kernel
theorem dX6_of_65 : decode cX6_of 65 = .ok (.ireturn, 1) := by decide +kernel
theorem dX6_of_66 : decode cX6_of 66 = .ok (.iload_n 1, 1) := by decide +kernel
theorem dX6_of_67 : decode cX6_of 67 = .ok (.aload_n 0, 1) := by decide +kernel
theorem dX6_of_68 : decode cX6_of 68 = .ok (.getfield 63, 3) := by decide +kernel
theorem dX6_of_71 : decode cX6_of 71 = .ok (.invokestatic 173, 3) := by decide +kernel
theorem dX6_of_74 : decode cX6_of 74 = .ok (.ifCond .eq 7, 3) := by decide +kernel
theorem dX6_of_77 : decode cX6_of 77 = .ok (.iconst 1, 1) := by decide +kernel
theorem dX6_of_78 : decode cX6_of 78 = .ok (.goto 4, 3) := by decide +kernel
theorem dX6_of_81 : decode cX6_of 81 = .ok (.iconst 0, 1) := by decide +kernel
theorem dX6_of_82 : decode cX6_of 82 = .ok (.ireturn, 1) := by decide +kernel
theorem dX6_of_83 : decode cX6_of 83 = .ok (.aload_n 0, 1) := by decide +kernel
theorem dX6_of_84 : decode cX6_of 84 = .ok (.getfield 19, 3) := by decide +kernel
theorem dX6_of_87 : decode cX6_of 87 = .ok (.aload_n 0, 1) := by decide +kernel
theorem dX6_of_88 : decode cX6_of 88 = .ok (.getfield 63, 3) := by decide +kernel
theorem dX6_of_91 : decode cX6_of 91 = .ok (.iconst 1, 1) := by decide +kernel
theorem dX6_of_92 : decode cX6_of 92 = .ok (.iload_n 1, 1) := by decide +kernel
theorem dX6_of_93 : decode cX6_of 93 = .ok (.ishl, 1) := by decide +kernel
theorem dX6_of_94 : decode cX6_of 94 = .ok (.iand, 1) := by decide +kernel
theorem dX6_of_95 : decode cX6_of 95 = .ok (.aload_n 0, 1) := by decide +kernel
theorem dX6_of_96 : decode cX6_of 96 = .ok (.getfield 63, 3) := by decide +kernel
theorem dX6_of_99 : decode cX6_of 99 = .ok (.invokevirtual 194, 3) := by decide +kernel
theorem dX6_of_102 : decode cX6_of 102 = .ok (.ireturn, 1) := by decide +kernel
theorem dX6_of_103 : decode cX6_of 103 = .ok (.aload_n 0, 1) := by decide +kernel
theorem dX6_of_104 : decode cX6_of 104 = .ok (.getfield 12, 3) := by decide +kernel
theorem dX6_of_107 : decode cX6_of 107 = .ok (.getfield 197, 3) := by decide +kernel
theorem dX6_of_110 : decode cX6_of 110 = .ok (.iload_n 1, 1) := by decide +kernel
theorem dX6_of_111 : decode cX6_of 111 = .ok (.iaload, 1) := by decide +kernel
theorem dX6_of_112 : decode cX6_of 112 = .ok (.ireturn, 1) := by decide +kernel
theorem dX6_of_113 : decode cX6_of 113 = .ok (.aload_n 0, 1) := by decide +kernel
theorem dX6_of_114 : decode cX6_of 114 = .ok (.getfield 12, 3) := by decide +kernel
theorem dX6_of_117 : decode cX6_of 117 = .ok (.getfield 131, 3) := by decide +kernel
theorem dX6_of_120 : decode cX6_of 120 = .ok (.iload_n 1, 1) := by decide +kernel
theorem dX6_of_121 : decode cX6_of 121 = .ok (.iaload, 1) := by decide +kernel
theorem dX6_of_122 : decode cX6_of 122 = .ok (.ireturn, 1) := by decide +kernel
theorem dX6_of_123 : decode cX6_of 123 = .ok (.aload_n 0, 1) := by decide +kernel
theorem dX6_of_124 : decode cX6_of 124 = .ok (.getfield 55, 3) := by decide +kernel
theorem dX6_of_127 : decode cX6_of 127 = .ok (.iload_n 1, 1) := by decide +kernel
theorem dX6_of_128 : decode cX6_of 128 = .ok (.iaload, 1) := by decide +kernel
theorem dX6_of_129 : decode cX6_of 129 = .ok (.ireturn, 1) := by decide +kernel
theorem dX6_of_130 : decode cX6_of 130 = .ok (.getstatic 77, 3) := by decide +kernel
theorem dX6_of_133 : decode cX6_of 133 = .ok (.aload_n 0, 1) := by decide +kernel
theorem dX6_of_134 : decode cX6_of 134 = .ok (.getfield 19, 3) := by decide +kernel
theorem dX6_of_137 : decode cX6_of 137 = .ok (.getfield 191, 3) := by decide +kernel
theorem dX6_of_140 : decode cX6_of 140 = .ok (.iload_n 1, 1) := by decide +kernel
theorem dX6_of_141 : decode cX6_of 141 = .ok (.iaload, 1) := by decide +kernel
theorem dX6_of_142 : decode cX6_of 142 = .ok (.iaload, 1) := by decide +kernel
theorem dX6_of_143 : decode cX6_of 143 = .ok (.ireturn, 1) := by decide +kernel
theorem dX6_of_144 : decode cX6_of 144 = .ok (.bipush (-2), 2) := by decide +kernel
theorem dX6_of_146 : decode cX6_of 146 = .ok (.ireturn, 1) := by decide +kernel
theorem dX6_count_0 : decode cX6_count 0 = .ok (.iload_n 1, 1) := by decide +kernel
theorem dX6_count_1 : decode cX6_count 1 = .ok (.tableswitch 97 0 6 #[43, 51, 63, 68, 73, 81, 89], 43) := by decide +kernel
theorem dX6_count_44 : decode cX6_count 44 = .ok (.aload_n 0, 1) := by decide +kernel
theorem dX6_count_45 : decode cX6_count 45 = .ok (.getfield 19, 3) := by decide +kernel
theorem dX6_count_48 : decode cX6_count 48 = .ok (.getfield 80, 3) := by decide +kernel
theorem dX6_count_51 : decode cX6_count 51 = .ok (.ireturn, 1) := by decide +kernel
theorem dX6_count_52 : decode cX6_count 52 = .ok (.aload_n 0, 1) := by decide +kernel
theorem dX6_count_53 : decode cX6_count 53 = .ok (.getfield 63, 3) := by decide +kernel
theorem dX6_count_56 : decode cX6_count 56 = .ok (.sipush 511, 3) := by decide +kernel
theorem dX6_count_59 : decode cX6_count 59 = .ok (.iand, 1) := by decide +kernel
theorem dX6_count_60 : decode cX6_count 60 = .ok (.invokestatic 200, 3) := by decide +kernel
theorem dX6_count_63 : decode cX6_count 63 = .ok (.ireturn, 1) := by decide +kernel
theorem dX6_count_64 : decode cX6_count 64 = .ok (.aload_n 0, 1) := by decide +kernel
theorem dX6_count_65 : decode cX6_count 65 = .ok (.getfield 59, 3) := by decide +kernel
theorem dX6_count_68 : decode cX6_count 68 = .ok (.ireturn, 1) := by decide +kernel
theorem dX6_count_69 : decode cX6_count 69 = .ok (.aload_n 0, 1) := by decide +kernel
theorem dX6_count_70 : decode cX6_count 70 = .ok (.invokevirtual 169, 3) := by decide +kernel
theorem dX6_count_73 : decode cX6_count 73 = .ok (.ireturn, 1) := by decide +kernel
theorem dX6_count_74 : decode cX6_count 74 = .ok (.aload_n 0, 1) := by decide +kernel
theorem dX6_count_75 : decode cX6_count 75 = .ok (.getfield 19, 3) := by decide +kernel
theorem dX6_count_78 : decode cX6_count 78 = .ok (.getfield 145, 3) := by decide +kernel
theorem dX6_count_81 : decode cX6_count 81 = .ok (.ireturn, 1) := by decide +kernel
theorem dX6_count_82 : decode cX6_count 82 = .ok (.aload_n 0, 1) := by decide +kernel
theorem dX6_count_83 : decode cX6_count 83 = .ok (.getfield 33, 3) := by decide +kernel
theorem dX6_count_86 : decode cX6_count 86 = .ok (.getfield 179, 3) := by decide +kernel
theorem dX6_count_89 : decode cX6_count 89 = .ok (.ireturn, 1) := by decide +kernel
theorem dX6_count_90 : decode cX6_count 90 = .ok (.aload_n 0, 1) := by decide +kernel
theorem dX6_count_91 : decode cX6_count 91 = .ok (.getfield 51, 3) := by decide +kernel
theorem dX6_count_94 : decode cX6_count 94 = .ok (.getfield 205, 3) := by decide +kernel
theorem dX6_count_97 : decode cX6_count 97 = .ok (.ireturn, 1) := by decide +kernel
theorem dX6_count_98 : decode cX6_count 98 = .ok (.bipush (-2), 2) := by decide +kernel
theorem dX6_count_100 : decode cX6_count 100 = .ok (.ireturn, 1) := by decide +kernel
theorem dX6_least_0 : decode cX6_least 0 = .ok (.aload_n 0, 1) := by decide +kernel
theorem dX6_least_1 : decode cX6_least 1 = .ok (.getfield 42, 3) := by decide +kernel
theorem dX6_least_4 : decode cX6_least 4 = .ok (.bipush 18, 2) := by decide +kernel
theorem dX6_least_6 : decode cX6_least 6 = .ok (.invokevirtual 208, 3) := by decide +kernel
theorem dX6_least_9 : decode cX6_least 9 = .ok (.iconst (-1), 1) := by decide +kernel
theorem dX6_least_10 : decode cX6_least 10 = .ok (.if_icmp .ne 5, 3) := by decide +kernel
theorem dX6_least_13 : decode cX6_least 13 = .ok (.iconst (-1), 1) := by decide +kernel
theorem dX6_least_14 : decode cX6_least 14 = .ok (.ireturn, 1) := by decide +kernel
theorem dX6_least_15 : decode cX6_least 15 = .ok (.iconst 1, 1) := by decide +kernel
theorem dX6_least_16 : decode cX6_least 16 = .ok (.istore_n 1, 1) := by decide +kernel
theorem dX6_least_17 : decode cX6_least 17 = .ok (.iload_n 1, 1) := by decide +kernel
theorem dX6_least_18 : decode cX6_least 18 = .ok (.bipush 18, 2) := by decide +kernel
theorem dX6_least_20 : decode cX6_least 20 = .ok (.if_icmp .ge 23, 3) := by decide +kernel
theorem dX6_least_23 : decode cX6_least 23 = .ok (.aload_n 0, 1) := by decide +kernel
theorem dX6_least_24 : decode cX6_least 24 = .ok (.getfield 42, 3) := by decide +kernel
theorem dX6_least_27 : decode cX6_least 27 = .ok (.iload_n 1, 1) := by decide +kernel
theorem dX6_least_28 : decode cX6_least 28 = .ok (.invokevirtual 208, 3) := by decide +kernel
theorem dX6_least_31 : decode cX6_least 31 = .ok (.iconst (-1), 1) := by decide +kernel
theorem dX6_least_32 : decode cX6_least 32 = .ok (.if_icmp .eq 5, 3) := by decide +kernel
theorem dX6_least_35 : decode cX6_least 35 = .ok (.iload_n 1, 1) := by decide +kernel
theorem dX6_least_36 : decode cX6_least 36 = .ok (.ireturn, 1) := by decide +kernel
theorem dX6_least_37 : decode cX6_least 37 = .ok (.iinc 1 1, 3) := by decide +kernel
theorem dX6_least_40 : decode cX6_least 40 = .ok (.goto (-23), 3) := by decide +kernel
theorem dX6_least_43 : decode cX6_least 43 = .ok (.bipush 18, 2) := by decide +kernel
theorem dX6_least_45 : decode cX6_least 45 = .ok (.ireturn, 1) := by decide +kernel
theorem dX6_fewest_0 : decode cX6_fewest 0 = .ok (.iload_n 1, 1) := by decide +kernel
theorem dX6_fewest_1 : decode cX6_fewest 1 = .ok (.invokestatic 66, 3) := by decide +kernel
theorem dX6_fewest_4 : decode cX6_fewest 4 = .ok (.ifCond .eq 14, 3) := by decide +kernel
theorem dX6_fewest_7 : decode cX6_fewest 7 = .ok (.aload_n 0, 1) := by decide +kernel
theorem dX6_fewest_8 : decode cX6_fewest 8 = .ok (.getfield 42, 3) := by decide +kernel
theorem dX6_fewest_11 : decode cX6_fewest 11 = .ok (.iload_n 1, 1) := by decide +kernel
theorem dX6_fewest_12 : decode cX6_fewest 12 = .ok (.invokevirtual 208, 3) := by decide +kernel
theorem dX6_fewest_15 : decode cX6_fewest 15 = .ok (.goto 5, 3) := by decide +kernel
theorem dX6_fewest_18 : decode cX6_fewest 18 = .ok (.bipush (-2), 2) := by decide +kernel
theorem dX6_fewest_20 : decode cX6_fewest 20 = .ok (.ireturn, 1) := by decide +kernel
theorem dX6_plan_0 : decode cX6_plan 0 = .ok (.iload_n 1, 1) := by decide +kernel
theorem dX6_plan_1 : decode cX6_plan 1 = .ok (.invokestatic 66, 3) := by decide +kernel
theorem dX6_plan_4 : decode cX6_plan 4 = .ok (.ifCond .eq 8, 3) := by decide +kernel
theorem dX6_plan_7 : decode cX6_plan 7 = .ok (.iload_n 2, 1) := by decide +kernel
theorem dX6_plan_8 : decode cX6_plan 8 = .ok (.iconst (-1), 1) := by decide +kernel
theorem dX6_plan_9 : decode cX6_plan 9 = .ok (.if_icmp .ge 6, 3) := by decide +kernel
theorem dX6_plan_12 : decode cX6_plan 12 = .ok (.bipush (-2), 2) := by decide +kernel
theorem dX6_plan_14 : decode cX6_plan 14 = .ok (.ireturn, 1) := by decide +kernel
theorem dX6_plan_15 : decode cX6_plan 15 = .ok (.aload_n 0, 1) := by decide +kernel
theorem dX6_plan_16 : decode cX6_plan 16 = .ok (.getfield 42, 3) := by decide +kernel
theorem dX6_plan_19 : decode cX6_plan 19 = .ok (.iload_n 1, 1) := by decide +kernel
theorem dX6_plan_20 : decode cX6_plan 20 = .ok (.invokevirtual 211, 3) := by decide +kernel
theorem dX6_plan_23 : decode cX6_plan 23 = .ok (.istore_n 3, 1) := by decide +kernel
theorem dX6_plan_24 : decode cX6_plan 24 = .ok (.iload_n 2, 1) := by decide +kernel
theorem dX6_plan_25 : decode cX6_plan 25 = .ok (.iconst (-1), 1) := by decide +kernel
theorem dX6_plan_26 : decode cX6_plan 26 = .ok (.if_icmp .ne 5, 3) := by decide +kernel
theorem dX6_plan_29 : decode cX6_plan 29 = .ok (.iload_n 3, 1) := by decide +kernel
theorem dX6_plan_30 : decode cX6_plan 30 = .ok (.ireturn, 1) := by decide +kernel
theorem dX6_plan_31 : decode cX6_plan 31 = .ok (.iload_n 2, 1) := by decide +kernel
theorem dX6_plan_32 : decode cX6_plan 32 = .ok (.iload_n 3, 1) := by decide +kernel
theorem dX6_plan_33 : decode cX6_plan 33 = .ok (.if_icmp .ge 14, 3) := by decide +kernel
theorem dX6_plan_36 : decode cX6_plan 36 = .ok (.aload_n 0, 1) := by decide +kernel
theorem dX6_plan_37 : decode cX6_plan 37 = .ok (.getfield 42, 3) := by decide +kernel
theorem dX6_plan_40 : decode cX6_plan 40 = .ok (.iload_n 2, 1) := by decide +kernel
theorem dX6_plan_41 : decode cX6_plan 41 = .ok (.invokevirtual 214, 3) := by decide +kernel
theorem dX6_plan_44 : decode cX6_plan 44 = .ok (.goto 4, 3) := by decide +kernel
theorem dX6_plan_47 : decode cX6_plan 47 = .ok (.iconst (-1), 1) := by decide +kernel
theorem dX6_plan_48 : decode cX6_plan 48 = .ok (.ireturn, 1) := by decide +kernel
theorem dX6_reach_0 : decode cX6_reach 0 = .ok (.iload_n 1, 1) := by decide +kernel
theorem dX6_reach_1 : decode cX6_reach 1 = .ok (.invokestatic 66, 3) := by decide +kernel
theorem dX6_reach_4 : decode cX6_reach 4 = .ok (.ifCond .eq 14, 3) := by decide +kernel
theorem dX6_reach_7 : decode cX6_reach 7 = .ok (.aload_n 0, 1) := by decide +kernel
theorem dX6_reach_8 : decode cX6_reach 8 = .ok (.getfield 42, 3) := by decide +kernel
theorem dX6_reach_11 : decode cX6_reach 11 = .ok (.iload_n 1, 1) := by decide +kernel
theorem dX6_reach_12 : decode cX6_reach 12 = .ok (.invokevirtual 217, 3) := by decide +kernel
theorem dX6_reach_15 : decode cX6_reach 15 = .ok (.goto 5, 3) := by decide +kernel
theorem dX6_reach_18 : decode cX6_reach 18 = .ok (.bipush (-2), 2) := by decide +kernel
theorem dX6_reach_20 : decode cX6_reach 20 = .ok (.ireturn, 1) := by decide +kernel
theorem dX6_row_0 : decode cX6_row 0 = .ok (.iload_n 1, 1) := by decide +kernel
theorem dX6_row_1 : decode cX6_row 1 = .ok (.invokestatic 66, 3) := by decide +kernel
theorem dX6_row_4 : decode cX6_row 4 = .ok (.ifCond .eq 24, 3) := by decide +kernel
theorem dX6_row_7 : decode cX6_row 7 = .ok (.aload_n 0, 1) := by decide +kernel
theorem dX6_row_8 : decode cX6_row 8 = .ok (.getfield 19, 3) := by decide +kernel
theorem dX6_row_11 : decode cX6_row 11 = .ok (.invokevirtual 220, 3) := by decide +kernel
theorem dX6_row_14 : decode cX6_row 14 = .ok (.ifCond .eq 14, 3) := by decide +kernel
theorem dX6_row_17 : decode cX6_row 17 = .ok (.aload_n 0, 1) := by decide +kernel
theorem dX6_row_18 : decode cX6_row 18 = .ok (.getfield 51, 3) := by decide +kernel
theorem dX6_row_21 : decode cX6_row 21 = .ok (.iload_n 1, 1) := by decide +kernel
theorem dX6_row_22 : decode cX6_row 22 = .ok (.invokevirtual 223, 3) := by decide +kernel
theorem dX6_row_25 : decode cX6_row 25 = .ok (.goto 5, 3) := by decide +kernel
theorem dX6_row_28 : decode cX6_row 28 = .ok (.bipush (-2), 2) := by decide +kernel
theorem dX6_row_30 : decode cX6_row 30 = .ok (.ireturn, 1) := by decide +kernel
theorem dX6_bit_0 : decode cX6_bit 0 = .ok (.iload_n 1, 1) := by decide +kernel
theorem dX6_bit_1 : decode cX6_bit 1 = .ok (.invokestatic 226, 3) := by decide +kernel
theorem dX6_bit_4 : decode cX6_bit 4 = .ok (.ifCond .eq 15, 3) := by decide +kernel
theorem dX6_bit_7 : decode cX6_bit 7 = .ok (.aload_n 0, 1) := by decide +kernel
theorem dX6_bit_8 : decode cX6_bit 8 = .ok (.getfield 51, 3) := by decide +kernel
theorem dX6_bit_11 : decode cX6_bit 11 = .ok (.getfield 229, 3) := by decide +kernel
theorem dX6_bit_14 : decode cX6_bit 14 = .ok (.iload_n 1, 1) := by decide +kernel
theorem dX6_bit_15 : decode cX6_bit 15 = .ok (.baload, 1) := by decide +kernel
theorem dX6_bit_16 : decode cX6_bit 16 = .ok (.goto 5, 3) := by decide +kernel
theorem dX6_bit_19 : decode cX6_bit 19 = .ok (.bipush (-2), 2) := by decide +kernel
theorem dX6_bit_21 : decode cX6_bit 21 = .ok (.ireturn, 1) := by decide +kernel
theorem dX6_flip_0 : decode cX6_flip 0 = .ok (.iload_n 1, 1) := by decide +kernel
theorem dX6_flip_1 : decode cX6_flip 1 = .ok (.invokestatic 226, 3) := by decide +kernel
theorem dX6_flip_4 : decode cX6_flip 4 = .ok (.ifCond .eq 14, 3) := by decide +kernel
theorem dX6_flip_7 : decode cX6_flip 7 = .ok (.aload_n 0, 1) := by decide +kernel
theorem dX6_flip_8 : decode cX6_flip 8 = .ok (.getfield 51, 3) := by decide +kernel
theorem dX6_flip_11 : decode cX6_flip 11 = .ok (.iload_n 1, 1) := by decide +kernel
theorem dX6_flip_12 : decode cX6_flip 12 = .ok (.invokevirtual 233, 3) := by decide +kernel
theorem dX6_flip_15 : decode cX6_flip 15 = .ok (.goto 5, 3) := by decide +kernel
theorem dX6_flip_18 : decode cX6_flip 18 = .ok (.bipush (-2), 2) := by decide +kernel
theorem dX6_flip_20 : decode cX6_flip 20 = .ok (.ireturn, 1) := by decide +kernel
theorem dX6_check_0 : decode cX6_check 0 = .ok (.iload_n 1, 1) := by decide +kernel
theorem dX6_check_1 : decode cX6_check 1 = .ok (.invokestatic 66, 3) := by decide +kernel
theorem dX6_check_4 : decode cX6_check 4 = .ok (.ifCond .eq 24, 3) := by decide +kernel
theorem dX6_check_7 : decode cX6_check 7 = .ok (.aload_n 0, 1) := by decide +kernel
theorem dX6_check_8 : decode cX6_check 8 = .ok (.getfield 19, 3) := by decide +kernel
theorem dX6_check_11 : decode cX6_check 11 = .ok (.invokevirtual 220, 3) := by decide +kernel
theorem dX6_check_14 : decode cX6_check 14 = .ok (.ifCond .eq 14, 3) := by decide +kernel
theorem dX6_check_17 : decode cX6_check 17 = .ok (.aload_n 0, 1) := by decide +kernel
theorem dX6_check_18 : decode cX6_check 18 = .ok (.getfield 51, 3) := by decide +kernel
theorem dX6_check_21 : decode cX6_check 21 = .ok (.iload_n 1, 1) := by decide +kernel
theorem dX6_check_22 : decode cX6_check 22 = .ok (.invokevirtual 236, 3) := by decide +kernel
theorem dX6_check_25 : decode cX6_check 25 = .ok (.goto 5, 3) := by decide +kernel
theorem dX6_check_28 : decode cX6_check 28 = .ok (.bipush (-2), 2) := by decide +kernel
theorem dX6_check_30 : decode cX6_check 30 = .ok (.ireturn, 1) := by decide +kernel
theorem dX6_where_0 : decode cX6_where 0 = .ok (.aload_n 0, 1) := by decide +kernel
theorem dX6_where_1 : decode cX6_where 1 = .ok (.getfield 51, 3) := by decide +kernel
theorem dX6_where_4 : decode cX6_where 4 = .ok (.getfield 239, 3) := by decide +kernel
theorem dX6_where_7 : decode cX6_where 7 = .ok (.ireturn, 1) := by decide +kernel
theorem dX6_isVatCount_0 : decode cX6_isVatCount 0 = .ok (.iload_n 0, 1) := by decide +kernel
theorem dX6_isVatCount_1 : decode cX6_isVatCount 1 = .ok (.iconst 1, 1) := by decide +kernel
theorem dX6_isVatCount_2 : decode cX6_isVatCount 2 = .ok (.if_icmp .lt 13, 3) := by decide +kernel
theorem dX6_isVatCount_5 : decode cX6_isVatCount 5 = .ok (.iload_n 0, 1) := by decide +kernel
theorem dX6_isVatCount_6 : decode cX6_isVatCount 6 = .ok (.bipush 18, 2) := by decide +kernel
theorem dX6_isVatCount_8 : decode cX6_isVatCount 8 = .ok (.if_icmp .gt 7, 3) := by decide +kernel
theorem dX6_isVatCount_11 : decode cX6_isVatCount 11 = .ok (.iconst 1, 1) := by decide +kernel
theorem dX6_isVatCount_12 : decode cX6_isVatCount 12 = .ok (.goto 4, 3) := by decide +kernel
theorem dX6_isVatCount_15 : decode cX6_isVatCount 15 = .ok (.iconst 0, 1) := by decide +kernel
theorem dX6_isVatCount_16 : decode cX6_isVatCount 16 = .ok (.ireturn, 1) := by decide +kernel
theorem dX6_isType_0 : decode cX6_isType 0 = .ok (.iload_n 0, 1) := by decide +kernel
theorem dX6_isType_1 : decode cX6_isType 1 = .ok (.ifCond .lt 12, 3) := by decide +kernel
theorem dX6_isType_4 : decode cX6_isType 4 = .ok (.iload_n 0, 1) := by decide +kernel
theorem dX6_isType_5 : decode cX6_isType 5 = .ok (.iconst 3, 1) := by decide +kernel
theorem dX6_isType_6 : decode cX6_isType 6 = .ok (.if_icmp .ge 7, 3) := by decide +kernel
theorem dX6_isType_9 : decode cX6_isType 9 = .ok (.iconst 1, 1) := by decide +kernel
theorem dX6_isType_10 : decode cX6_isType 10 = .ok (.goto 4, 3) := by decide +kernel
theorem dX6_isType_13 : decode cX6_isType 13 = .ok (.iconst 0, 1) := by decide +kernel
theorem dX6_isType_14 : decode cX6_isType 14 = .ok (.ireturn, 1) := by decide +kernel
theorem dX6_isRowBit_0 : decode cX6_isRowBit 0 = .ok (.iload_n 0, 1) := by decide +kernel
theorem dX6_isRowBit_1 : decode cX6_isRowBit 1 = .ok (.ifCond .lt 14, 3) := by decide +kernel
theorem dX6_isRowBit_4 : decode cX6_isRowBit 4 = .ok (.iload_n 0, 1) := by decide +kernel
theorem dX6_isRowBit_5 : decode cX6_isRowBit 5 = .ok (.sipush 4096, 3) := by decide +kernel
theorem dX6_isRowBit_8 : decode cX6_isRowBit 8 = .ok (.if_icmp .ge 7, 3) := by decide +kernel
theorem dX6_isRowBit_11 : decode cX6_isRowBit 11 = .ok (.iconst 1, 1) := by decide +kernel
theorem dX6_isRowBit_12 : decode cX6_isRowBit 12 = .ok (.goto 4, 3) := by decide +kernel
theorem dX6_isRowBit_15 : decode cX6_isRowBit 15 = .ok (.iconst 0, 1) := by decide +kernel
theorem dX6_isRowBit_16 : decode cX6_isRowBit 16 = .ok (.ireturn, 1) := by decide +kernel
theorem dX6_anyStands_0 : decode cX6_anyStands 0 = .ok (.aload_n 0, 1) := by decide +kernel
theorem dX6_anyStands_1 : decode cX6_anyStands 1 = .ok (.getfield 63, 3) := by decide +kernel
theorem dX6_anyStands_4 : decode cX6_anyStands 4 = .ok (.sipush 511, 3) := by decide +kernel
theorem dX6_anyStands_7 : decode cX6_anyStands 7 = .ok (.iand, 1) := by decide +kernel
theorem dX6_anyStands_8 : decode cX6_anyStands 8 = .ok (.ifCond .eq 7, 3) := by decide +kernel
theorem dX6_anyStands_11 : decode cX6_anyStands 11 = .ok (.iconst 1, 1) := by decide +kernel
theorem dX6_anyStands_12 : decode cX6_anyStands 12 = .ok (.goto 4, 3) := by decide +kernel
theorem dX6_anyStands_15 : decode cX6_anyStands 15 = .ok (.iconst 0, 1) := by decide +kernel
theorem dX6_anyStands_16 : decode cX6_anyStands 16 = .ok (.ireturn, 1) := by decide +kernel
theorem dX6_freeVats_0 : decode cX6_freeVats 0 = .ok (.aload_n 0, 1) := by decide +kernel
theorem dX6_freeVats_1 : decode cX6_freeVats 1 = .ok (.getfield 59, 3) := by decide +kernel
theorem dX6_freeVats_4 : decode cX6_freeVats 4 = .ok (.aload_n 0, 1) := by decide +kernel
theorem dX6_freeVats_5 : decode cX6_freeVats 5 = .ok (.getfield 19, 3) := by decide +kernel
theorem dX6_freeVats_8 : decode cX6_freeVats 8 = .ok (.aload_n 0, 1) := by decide +kernel
theorem dX6_freeVats_9 : decode cX6_freeVats 9 = .ok (.getfield 63, 3) := by decide +kernel
theorem dX6_freeVats_12 : decode cX6_freeVats 12 = .ok (.invokevirtual 70, 3) := by decide +kernel
theorem dX6_freeVats_15 : decode cX6_freeVats 15 = .ok (.isub, 1) := by decide +kernel
theorem dX6_freeVats_16 : decode cX6_freeVats 16 = .ok (.ireturn, 1) := by decide +kernel
theorem dX6_recipeChanged_0 : decode cX6_recipeChanged 0 = .ok (.aload_n 0, 1) := by decide +kernel
theorem dX6_recipeChanged_1 : decode cX6_recipeChanged 1 = .ok (.getfield 19, 3) := by decide +kernel
theorem dX6_recipeChanged_4 : decode cX6_recipeChanged 4 = .ok (.iload_n 1, 1) := by decide +kernel
theorem dX6_recipeChanged_5 : decode cX6_recipeChanged 5 = .ok (.aload_n 0, 1) := by decide +kernel
theorem dX6_recipeChanged_6 : decode cX6_recipeChanged 6 = .ok (.getfield 12, 3) := by decide +kernel
theorem dX6_recipeChanged_9 : decode cX6_recipeChanged 9 = .ok (.invokevirtual 242, 3) := by decide +kernel
theorem dX6_recipeChanged_12 : decode cX6_recipeChanged 12 = .ok (.aload_n 0, 1) := by decide +kernel
theorem dX6_recipeChanged_13 : decode cX6_recipeChanged 13 = .ok (.getfield 33, 3) := by decide +kernel
theorem dX6_recipeChanged_16 : decode cX6_recipeChanged 16 = .ok (.invokevirtual 74, 3) := by decide +kernel
theorem dX6_recipeChanged_19 : decode cX6_recipeChanged 19 = .ok (.aload_n 0, 1) := by decide +kernel
theorem dX6_recipeChanged_20 : decode cX6_recipeChanged 20 = .ok (.getfield 42, 3) := by decide +kernel
theorem dX6_recipeChanged_23 : decode cX6_recipeChanged 23 = .ok (.invokevirtual 83, 3) := by decide +kernel
theorem dX6_recipeChanged_26 : decode cX6_recipeChanged 26 = .ok (.return_, 1) := by decide +kernel
theorem dJ6_bitCount_0f7a4_0 : decode cJ6_bitCount_0f7a4 0 = .ok (.iload_n 0, 1) := by decide +kernel
theorem dJ6_bitCount_0f7a4_1 : decode cJ6_bitCount_0f7a4 1 = .ok (.iload_n 0, 1) := by decide +kernel
theorem dJ6_bitCount_0f7a4_2 : decode cJ6_bitCount_0f7a4 2 = .ok (.iconst 1, 1) := by decide +kernel
theorem dJ6_bitCount_0f7a4_3 : decode cJ6_bitCount_0f7a4 3 = .ok (.iushr, 1) := by decide +kernel
theorem dJ6_bitCount_0f7a4_4 : decode cJ6_bitCount_0f7a4 4 = .ok (.ldc_w 265, 3) := by decide +kernel
theorem dJ6_bitCount_0f7a4_7 : decode cJ6_bitCount_0f7a4 7 = .ok (.iand, 1) := by decide +kernel
theorem dJ6_bitCount_0f7a4_8 : decode cJ6_bitCount_0f7a4 8 = .ok (.isub, 1) := by decide +kernel
theorem dJ6_bitCount_0f7a4_9 : decode cJ6_bitCount_0f7a4 9 = .ok (.istore_n 0, 1) := by decide +kernel
theorem dJ6_bitCount_0f7a4_10 : decode cJ6_bitCount_0f7a4 10 = .ok (.iload_n 0, 1) := by decide +kernel
theorem dJ6_bitCount_0f7a4_11 : decode cJ6_bitCount_0f7a4 11 = .ok (.ldc_w 266, 3) := by decide +kernel
theorem dJ6_bitCount_0f7a4_14 : decode cJ6_bitCount_0f7a4 14 = .ok (.iand, 1) := by decide +kernel
theorem dJ6_bitCount_0f7a4_15 : decode cJ6_bitCount_0f7a4 15 = .ok (.iload_n 0, 1) := by decide +kernel
theorem dJ6_bitCount_0f7a4_16 : decode cJ6_bitCount_0f7a4 16 = .ok (.iconst 2, 1) := by decide +kernel
theorem dJ6_bitCount_0f7a4_17 : decode cJ6_bitCount_0f7a4 17 = .ok (.iushr, 1) := by decide +kernel
theorem dJ6_bitCount_0f7a4_18 : decode cJ6_bitCount_0f7a4 18 = .ok (.ldc_w 266, 3) := by decide +kernel
theorem dJ6_bitCount_0f7a4_21 : decode cJ6_bitCount_0f7a4 21 = .ok (.iand, 1) := by decide +kernel
theorem dJ6_bitCount_0f7a4_22 : decode cJ6_bitCount_0f7a4 22 = .ok (.iadd, 1) := by decide +kernel
theorem dJ6_bitCount_0f7a4_23 : decode cJ6_bitCount_0f7a4 23 = .ok (.istore_n 0, 1) := by decide +kernel
theorem dJ6_bitCount_0f7a4_24 : decode cJ6_bitCount_0f7a4 24 = .ok (.iload_n 0, 1) := by decide +kernel
theorem dJ6_bitCount_0f7a4_25 : decode cJ6_bitCount_0f7a4 25 = .ok (.iload_n 0, 1) := by decide +kernel
theorem dJ6_bitCount_0f7a4_26 : decode cJ6_bitCount_0f7a4 26 = .ok (.iconst 4, 1) := by decide +kernel
theorem dJ6_bitCount_0f7a4_27 : decode cJ6_bitCount_0f7a4 27 = .ok (.iushr, 1) := by decide +kernel
theorem dJ6_bitCount_0f7a4_28 : decode cJ6_bitCount_0f7a4 28 = .ok (.iadd, 1) := by decide +kernel
theorem dJ6_bitCount_0f7a4_29 : decode cJ6_bitCount_0f7a4 29 = .ok (.ldc_w 267, 3) := by decide +kernel
theorem dJ6_bitCount_0f7a4_32 : decode cJ6_bitCount_0f7a4 32 = .ok (.iand, 1) := by decide +kernel
theorem dJ6_bitCount_0f7a4_33 : decode cJ6_bitCount_0f7a4 33 = .ok (.istore_n 0, 1) := by decide +kernel
theorem dJ6_bitCount_0f7a4_34 : decode cJ6_bitCount_0f7a4 34 = .ok (.iload_n 0, 1) := by decide +kernel
theorem dJ6_bitCount_0f7a4_35 : decode cJ6_bitCount_0f7a4 35 = .ok (.iload_n 0, 1) := by decide +kernel
theorem dJ6_bitCount_0f7a4_36 : decode cJ6_bitCount_0f7a4 36 = .ok (.bipush 8, 2) := by decide +kernel
theorem dJ6_bitCount_0f7a4_38 : decode cJ6_bitCount_0f7a4 38 = .ok (.iushr, 1) := by decide +kernel
theorem dJ6_bitCount_0f7a4_39 : decode cJ6_bitCount_0f7a4 39 = .ok (.iadd, 1) := by decide +kernel
theorem dJ6_bitCount_0f7a4_40 : decode cJ6_bitCount_0f7a4 40 = .ok (.istore_n 0, 1) := by decide +kernel
theorem dJ6_bitCount_0f7a4_41 : decode cJ6_bitCount_0f7a4 41 = .ok (.iload_n 0, 1) := by decide +kernel
theorem dJ6_bitCount_0f7a4_42 : decode cJ6_bitCount_0f7a4 42 = .ok (.iload_n 0, 1) := by decide +kernel
theorem dJ6_bitCount_0f7a4_43 : decode cJ6_bitCount_0f7a4 43 = .ok (.bipush 16, 2) := by decide +kernel
theorem dJ6_bitCount_0f7a4_45 : decode cJ6_bitCount_0f7a4 45 = .ok (.iushr, 1) := by decide +kernel
theorem dJ6_bitCount_0f7a4_46 : decode cJ6_bitCount_0f7a4 46 = .ok (.iadd, 1) := by decide +kernel
theorem dJ6_bitCount_0f7a4_47 : decode cJ6_bitCount_0f7a4 47 = .ok (.istore_n 0, 1) := by decide +kernel
theorem dJ6_bitCount_0f7a4_48 : decode cJ6_bitCount_0f7a4 48 = .ok (.iload_n 0, 1) := by decide +kernel
theorem dJ6_bitCount_0f7a4_49 : decode cJ6_bitCount_0f7a4 49 = .ok (.bipush 63, 2) := by decide +kernel
theorem dJ6_bitCount_0f7a4_51 : decode cJ6_bitCount_0f7a4 51 = .ok (.iand, 1) := by decide +kernel
theorem dJ6_bitCount_0f7a4_52 : decode cJ6_bitCount_0f7a4 52 = .ok (.ireturn, 1) := by decide +kernel
theorem dJ9_max_7cf53_0 : decode cJ9_max_7cf53 0 = .ok (.iload_n 0, 1) := by decide +kernel
theorem dJ9_max_7cf53_1 : decode cJ9_max_7cf53 1 = .ok (.iload_n 1, 1) := by decide +kernel
theorem dJ9_max_7cf53_2 : decode cJ9_max_7cf53 2 = .ok (.if_icmp .lt 7, 3) := by decide +kernel
theorem dJ9_max_7cf53_5 : decode cJ9_max_7cf53 5 = .ok (.iload_n 0, 1) := by decide +kernel
theorem dJ9_max_7cf53_6 : decode cJ9_max_7cf53 6 = .ok (.goto 4, 3) := by decide +kernel
theorem dJ9_max_7cf53_9 : decode cJ9_max_7cf53 9 = .ok (.iload_n 1, 1) := by decide +kernel
theorem dJ9_max_7cf53_10 : decode cJ9_max_7cf53 10 = .ok (.ireturn, 1) := by decide +kernel
theorem dJ9_min_7cf53_0 : decode cJ9_min_7cf53 0 = .ok (.iload_n 0, 1) := by decide +kernel
theorem dJ9_min_7cf53_1 : decode cJ9_min_7cf53 1 = .ok (.iload_n 1, 1) := by decide +kernel
theorem dJ9_min_7cf53_2 : decode cJ9_min_7cf53 2 = .ok (.if_icmp .gt 7, 3) := by decide +kernel
theorem dJ9_min_7cf53_5 : decode cJ9_min_7cf53 5 = .ok (.iload_n 0, 1) := by decide +kernel
theorem dJ9_min_7cf53_6 : decode cJ9_min_7cf53 6 = .ok (.goto 4, 3) := by decide +kernel
theorem dJ9_min_7cf53_9 : decode cJ9_min_7cf53 9 = .ok (.iload_n 1, 1) := by decide +kernel
theorem dJ9_min_7cf53_10 : decode cJ9_min_7cf53 10 = .ok (.ireturn, 1) := by decide +kernel
theorem dJ7_fill_53178_0 : decode cJ7_fill_53178 0 = .ok (.iconst 0, 1) := by decide +kernel
theorem dJ7_fill_53178_1 : decode cJ7_fill_53178 1 = .ok (.istore_n 2, 1) := by decide +kernel
theorem dJ7_fill_53178_2 : decode cJ7_fill_53178 2 = .ok (.aload_n 0, 1) := by decide +kernel
theorem dJ7_fill_53178_3 : decode cJ7_fill_53178 3 = .ok (.arraylength, 1) := by decide +kernel
theorem dJ7_fill_53178_4 : decode cJ7_fill_53178 4 = .ok (.istore_n 3, 1) := by decide +kernel
theorem dJ7_fill_53178_5 : decode cJ7_fill_53178 5 = .ok (.iload_n 2, 1) := by decide +kernel
theorem dJ7_fill_53178_6 : decode cJ7_fill_53178 6 = .ok (.iload_n 3, 1) := by decide +kernel
theorem dJ7_fill_53178_7 : decode cJ7_fill_53178 7 = .ok (.if_icmp .ge 13, 3) := by decide +kernel
theorem dJ7_fill_53178_10 : decode cJ7_fill_53178 10 = .ok (.aload_n 0, 1) := by decide +kernel
theorem dJ7_fill_53178_11 : decode cJ7_fill_53178 11 = .ok (.iload_n 2, 1) := by decide +kernel
theorem dJ7_fill_53178_12 : decode cJ7_fill_53178 12 = .ok (.iload_n 1, 1) := by decide +kernel
theorem dJ7_fill_53178_13 : decode cJ7_fill_53178 13 = .ok (.iastore, 1) := by decide +kernel
theorem dJ7_fill_53178_14 : decode cJ7_fill_53178 14 = .ok (.iinc 2 1, 3) := by decide +kernel
theorem dJ7_fill_53178_17 : decode cJ7_fill_53178 17 = .ok (.goto (-12), 3) := by decide +kernel
theorem dJ7_fill_53178_20 : decode cJ7_fill_53178 20 = .ok (.return_, 1) := by decide +kernel
theorem dJ7_fill_031fb_0 : decode cJ7_fill_031fb 0 = .ok (.iconst 0, 1) := by decide +kernel
theorem dJ7_fill_031fb_1 : decode cJ7_fill_031fb 1 = .ok (.istore_n 2, 1) := by decide +kernel
theorem dJ7_fill_031fb_2 : decode cJ7_fill_031fb 2 = .ok (.aload_n 0, 1) := by decide +kernel
theorem dJ7_fill_031fb_3 : decode cJ7_fill_031fb 3 = .ok (.arraylength, 1) := by decide +kernel
theorem dJ7_fill_031fb_4 : decode cJ7_fill_031fb 4 = .ok (.istore_n 3, 1) := by decide +kernel
theorem dJ7_fill_031fb_5 : decode cJ7_fill_031fb 5 = .ok (.iload_n 2, 1) := by decide +kernel
theorem dJ7_fill_031fb_6 : decode cJ7_fill_031fb 6 = .ok (.iload_n 3, 1) := by decide +kernel
theorem dJ7_fill_031fb_7 : decode cJ7_fill_031fb 7 = .ok (.if_icmp .ge 13, 3) := by decide +kernel
theorem dJ7_fill_031fb_10 : decode cJ7_fill_031fb 10 = .ok (.aload_n 0, 1) := by decide +kernel
theorem dJ7_fill_031fb_11 : decode cJ7_fill_031fb 11 = .ok (.iload_n 2, 1) := by decide +kernel
theorem dJ7_fill_031fb_12 : decode cJ7_fill_031fb 12 = .ok (.iload_n 1, 1) := by decide +kernel
theorem dJ7_fill_031fb_13 : decode cJ7_fill_031fb 13 = .ok (.bastore, 1) := by decide +kernel
theorem dJ7_fill_031fb_14 : decode cJ7_fill_031fb 14 = .ok (.iinc 2 1, 3) := by decide +kernel
theorem dJ7_fill_031fb_17 : decode cJ7_fill_031fb 17 = .ok (.goto (-12), 3) := by decide +kernel
theorem dJ7_fill_031fb_20 : decode cJ7_fill_031fb 20 = .ok (.return_, 1) := by decide +kernel
