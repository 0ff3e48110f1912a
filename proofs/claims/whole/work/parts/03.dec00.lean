theorem dX0_init_0 : decode cX0_init 0 = .ok (.aload_n 0, 1) := by decide +kernel
theorem dX0_init_1 : decode cX0_init 1 = .ok (.invokespecial 3, 3) := by decide +kernel
theorem dX0_init_4 : decode cX0_init 4 = .ok (.aload_n 0, 1) := by decide +kernel
theorem dX0_init_5 : decode cX0_init 5 = .ok (.bipush 6, 2) := by decide +kernel
theorem dX0_init_7 : decode cX0_init 7 = .ok (.newarray .long, 2) := by decide +kernel
theorem dX0_init_9 : decode cX0_init 9 = .ok (.putfield 9, 3) := by decide +kernel
theorem dX0_init_12 : decode cX0_init 12 = .ok (.aload_n 0, 1) := by decide +kernel
theorem dX0_init_13 : decode cX0_init 13 = .ok (.lconst 1, 1) := by decide +kernel
theorem dX0_init_14 : decode cX0_init 14 = .ok (.putfield 15, 3) := by decide +kernel
theorem dX0_init_17 : decode cX0_init 17 = .ok (.aload_n 0, 1) := by decide +kernel
theorem dX0_init_18 : decode cX0_init 18 = .ok (.bipush 6, 2) := by decide +kernel
theorem dX0_init_20 : decode cX0_init 20 = .ok (.bipush 7, 2) := by decide +kernel
theorem dX0_init_22 : decode cX0_init 22 = .ok (.multianewarray 19 2, 4) := by decide +kernel
theorem dX0_init_26 : decode cX0_init 26 = .ok (.putfield 21, 3) := by decide +kernel
theorem dX0_init_29 : decode cX0_init 29 = .ok (.aload_n 0, 1) := by decide +kernel
theorem dX0_init_30 : decode cX0_init 30 = .ok (.bipush 6, 2) := by decide +kernel
theorem dX0_init_32 : decode cX0_init 32 = .ok (.newarray .int, 2) := by decide +kernel
theorem dX0_init_34 : decode cX0_init 34 = .ok (.putfield 24, 3) := by decide +kernel
theorem dX0_init_37 : decode cX0_init 37 = .ok (.aload_n 0, 1) := by decide +kernel
theorem dX0_init_38 : decode cX0_init 38 = .ok (.bipush 6, 2) := by decide +kernel
theorem dX0_init_40 : decode cX0_init 40 = .ok (.newarray .long, 2) := by decide +kernel
theorem dX0_init_42 : decode cX0_init 42 = .ok (.putfield 28, 3) := by decide +kernel
theorem dX0_init_45 : decode cX0_init 45 = .ok (.aload_n 0, 1) := by decide +kernel
theorem dX0_init_46 : decode cX0_init 46 = .ok (.iconst 0, 1) := by decide +kernel
theorem dX0_init_47 : decode cX0_init 47 = .ok (.putfield 31, 3) := by decide +kernel
theorem dX0_init_50 : decode cX0_init 50 = .ok (.return_, 1) := by decide +kernel
theorem dX0_timesTo_0 : decode cX0_timesTo 0 = .ok (.aload_n 0, 1) := by decide +kernel
theorem dX0_timesTo_1 : decode cX0_timesTo 1 = .ok (.invokevirtual 35, 3) := by decide +kernel
theorem dX0_timesTo_4 : decode cX0_timesTo 4 = .ok (.iconst 0, 1) := by decide +kernel
theorem dX0_timesTo_5 : decode cX0_timesTo 5 = .ok (.istore 4, 2) := by decide +kernel
theorem dX0_timesTo_7 : decode cX0_timesTo 7 = .ok (.iload 4, 2) := by decide +kernel
theorem dX0_timesTo_9 : decode cX0_timesTo 9 = .ok (.aload_n 1, 1) := by decide +kernel
theorem dX0_timesTo_10 : decode cX0_timesTo 10 = .ok (.getfield 38, 3) := by decide +kernel
theorem dX0_timesTo_13 : decode cX0_timesTo 13 = .ok (.if_icmp .ge 68, 3) := by decide +kernel
theorem dX0_timesTo_16 : decode cX0_timesTo 16 = .ok (.iload_n 2, 1) := by decide +kernel
theorem dX0_timesTo_17 : decode cX0_timesTo 17 = .ok (.iload 4, 2) := by decide +kernel
theorem dX0_timesTo_19 : decode cX0_timesTo 19 = .ok (.invokestatic 43, 3) := by decide +kernel
theorem dX0_timesTo_22 : decode cX0_timesTo 22 = .ok (.ifCond .eq 53, 3) := by decide +kernel
theorem dX0_timesTo_25 : decode cX0_timesTo 25 = .ok (.aload_n 1, 1) := by decide +kernel
theorem dX0_timesTo_26 : decode cX0_timesTo 26 = .ok (.iload 4, 2) := by decide +kernel
theorem dX0_timesTo_28 : decode cX0_timesTo 28 = .ok (.invokevirtual 47, 3) := by decide +kernel
theorem dX0_timesTo_31 : decode cX0_timesTo 31 = .ok (.aload_n 1, 1) := by decide +kernel
theorem dX0_timesTo_32 : decode cX0_timesTo 32 = .ok (.iload 4, 2) := by decide +kernel
theorem dX0_timesTo_34 : decode cX0_timesTo 34 = .ok (.invokevirtual 51, 3) := by decide +kernel
theorem dX0_timesTo_37 : decode cX0_timesTo 37 = .ok (.imul, 1) := by decide +kernel
theorem dX0_timesTo_38 : decode cX0_timesTo 38 = .ok (.i2l, 1) := by decide +kernel
theorem dX0_timesTo_39 : decode cX0_timesTo 39 = .ok (.lstore 5, 2) := by decide +kernel
theorem dX0_timesTo_41 : decode cX0_timesTo 41 = .ok (.aload_n 0, 1) := by decide +kernel
theorem dX0_timesTo_42 : decode cX0_timesTo 42 = .ok (.getfield 28, 3) := by decide +kernel
theorem dX0_timesTo_45 : decode cX0_timesTo 45 = .ok (.aload_n 1, 1) := by decide +kernel
theorem dX0_timesTo_46 : decode cX0_timesTo 46 = .ok (.getfield 54, 3) := by decide +kernel
theorem dX0_timesTo_49 : decode cX0_timesTo 49 = .ok (.iload 4, 2) := by decide +kernel
theorem dX0_timesTo_51 : decode cX0_timesTo 51 = .ok (.iaload, 1) := by decide +kernel
theorem dX0_timesTo_52 : decode cX0_timesTo 52 = .ok (.dup2, 1) := by decide +kernel
theorem dX0_timesTo_53 : decode cX0_timesTo 53 = .ok (.laload, 1) := by decide +kernel
theorem dX0_timesTo_54 : decode cX0_timesTo 54 = .ok (.lload 5, 2) := by decide +kernel
theorem dX0_timesTo_56 : decode cX0_timesTo 56 = .ok (.ladd, 1) := by decide +kernel
theorem dX0_timesTo_57 : decode cX0_timesTo 57 = .ok (.lastore, 1) := by decide +kernel
theorem dX0_timesTo_58 : decode cX0_timesTo 58 = .ok (.aload_n 0, 1) := by decide +kernel
theorem dX0_timesTo_59 : decode cX0_timesTo 59 = .ok (.getfield 28, 3) := by decide +kernel
theorem dX0_timesTo_62 : decode cX0_timesTo 62 = .ok (.aload_n 1, 1) := by decide +kernel
theorem dX0_timesTo_63 : decode cX0_timesTo 63 = .ok (.getfield 57, 3) := by decide +kernel
theorem dX0_timesTo_66 : decode cX0_timesTo 66 = .ok (.iload 4, 2) := by decide +kernel
theorem dX0_timesTo_68 : decode cX0_timesTo 68 = .ok (.iaload, 1) := by decide +kernel
theorem dX0_timesTo_69 : decode cX0_timesTo 69 = .ok (.dup2, 1) := by decide +kernel
theorem dX0_timesTo_70 : decode cX0_timesTo 70 = .ok (.laload, 1) := by decide +kernel
theorem dX0_timesTo_71 : decode cX0_timesTo 71 = .ok (.lload 5, 2) := by decide +kernel
theorem dX0_timesTo_73 : decode cX0_timesTo 73 = .ok (.ladd, 1) := by decide +kernel
theorem dX0_timesTo_74 : decode cX0_timesTo 74 = .ok (.lastore, 1) := by decide +kernel
theorem dX0_timesTo_75 : decode cX0_timesTo 75 = .ok (.iinc 4 1, 3) := by decide +kernel
theorem dX0_timesTo_78 : decode cX0_timesTo 78 = .ok (.goto (-71), 3) := by decide +kernel
theorem dX0_timesTo_81 : decode cX0_timesTo 81 = .ok (.aload_n 0, 1) := by decide +kernel
theorem dX0_timesTo_82 : decode cX0_timesTo 82 = .ok (.aload_n 1, 1) := by decide +kernel
theorem dX0_timesTo_83 : decode cX0_timesTo 83 = .ok (.iload_n 2, 1) := by decide +kernel
theorem dX0_timesTo_84 : decode cX0_timesTo 84 = .ok (.iconst 1, 1) := by decide +kernel
theorem dX0_timesTo_85 : decode cX0_timesTo 85 = .ok (.iload_n 3, 1) := by decide +kernel
theorem dX0_timesTo_86 : decode cX0_timesTo 86 = .ok (.ishl, 1) := by decide +kernel
theorem dX0_timesTo_87 : decode cX0_timesTo 87 = .ok (.invokevirtual 60, 3) := by decide +kernel
theorem dX0_timesTo_90 : decode cX0_timesTo 90 = .ok (.return_, 1) := by decide +kernel
theorem dX0_stepsTo_0 : decode cX0_stepsTo 0 = .ok (.aload_n 0, 1) := by decide +kernel
theorem dX0_stepsTo_1 : decode cX0_stepsTo 1 = .ok (.invokevirtual 35, 3) := by decide +kernel
theorem dX0_stepsTo_4 : decode cX0_stepsTo 4 = .ok (.iconst 0, 1) := by decide +kernel
theorem dX0_stepsTo_5 : decode cX0_stepsTo 5 = .ok (.istore 4, 2) := by decide +kernel
theorem dX0_stepsTo_7 : decode cX0_stepsTo 7 = .ok (.iload 4, 2) := by decide +kernel
theorem dX0_stepsTo_9 : decode cX0_stepsTo 9 = .ok (.aload_n 1, 1) := by decide +kernel
theorem dX0_stepsTo_10 : decode cX0_stepsTo 10 = .ok (.getfield 38, 3) := by decide +kernel
theorem dX0_stepsTo_13 : decode cX0_stepsTo 13 = .ok (.if_icmp .ge 62, 3) := by decide +kernel
theorem dX0_stepsTo_16 : decode cX0_stepsTo 16 = .ok (.iload_n 2, 1) := by decide +kernel
theorem dX0_stepsTo_17 : decode cX0_stepsTo 17 = .ok (.iload 4, 2) := by decide +kernel
theorem dX0_stepsTo_19 : decode cX0_stepsTo 19 = .ok (.invokestatic 43, 3) := by decide +kernel
theorem dX0_stepsTo_22 : decode cX0_stepsTo 22 = .ok (.ifCond .eq 47, 3) := by decide +kernel
theorem dX0_stepsTo_25 : decode cX0_stepsTo 25 = .ok (.aload_n 0, 1) := by decide +kernel
theorem dX0_stepsTo_26 : decode cX0_stepsTo 26 = .ok (.getfield 28, 3) := by decide +kernel
theorem dX0_stepsTo_29 : decode cX0_stepsTo 29 = .ok (.aload_n 1, 1) := by decide +kernel
theorem dX0_stepsTo_30 : decode cX0_stepsTo 30 = .ok (.getfield 54, 3) := by decide +kernel
theorem dX0_stepsTo_33 : decode cX0_stepsTo 33 = .ok (.iload 4, 2) := by decide +kernel
theorem dX0_stepsTo_35 : decode cX0_stepsTo 35 = .ok (.iaload, 1) := by decide +kernel
theorem dX0_stepsTo_36 : decode cX0_stepsTo 36 = .ok (.dup2, 1) := by decide +kernel
theorem dX0_stepsTo_37 : decode cX0_stepsTo 37 = .ok (.laload, 1) := by decide +kernel
theorem dX0_stepsTo_38 : decode cX0_stepsTo 38 = .ok (.aload_n 1, 1) := by decide +kernel
theorem dX0_stepsTo_39 : decode cX0_stepsTo 39 = .ok (.iload 4, 2) := by decide +kernel
theorem dX0_stepsTo_41 : decode cX0_stepsTo 41 = .ok (.invokevirtual 47, 3) := by decide +kernel
theorem dX0_stepsTo_44 : decode cX0_stepsTo 44 = .ok (.i2l, 1) := by decide +kernel
theorem dX0_stepsTo_45 : decode cX0_stepsTo 45 = .ok (.ladd, 1) := by decide +kernel
theorem dX0_stepsTo_46 : decode cX0_stepsTo 46 = .ok (.lastore, 1) := by decide +kernel
theorem dX0_stepsTo_47 : decode cX0_stepsTo 47 = .ok (.aload_n 0, 1) := by decide +kernel
theorem dX0_stepsTo_48 : decode cX0_stepsTo 48 = .ok (.getfield 28, 3) := by decide +kernel
theorem dX0_stepsTo_51 : decode cX0_stepsTo 51 = .ok (.aload_n 1, 1) := by decide +kernel
theorem dX0_stepsTo_52 : decode cX0_stepsTo 52 = .ok (.getfield 57, 3) := by decide +kernel
theorem dX0_stepsTo_55 : decode cX0_stepsTo 55 = .ok (.iload 4, 2) := by decide +kernel
theorem dX0_stepsTo_57 : decode cX0_stepsTo 57 = .ok (.iaload, 1) := by decide +kernel
theorem dX0_stepsTo_58 : decode cX0_stepsTo 58 = .ok (.dup2, 1) := by decide +kernel
theorem dX0_stepsTo_59 : decode cX0_stepsTo 59 = .ok (.laload, 1) := by decide +kernel
theorem dX0_stepsTo_60 : decode cX0_stepsTo 60 = .ok (.aload_n 1, 1) := by decide +kernel
theorem dX0_stepsTo_61 : decode cX0_stepsTo 61 = .ok (.iload 4, 2) := by decide +kernel
theorem dX0_stepsTo_63 : decode cX0_stepsTo 63 = .ok (.invokevirtual 47, 3) := by decide +kernel
theorem dX0_stepsTo_66 : decode cX0_stepsTo 66 = .ok (.i2l, 1) := by decide +kernel
theorem dX0_stepsTo_67 : decode cX0_stepsTo 67 = .ok (.ladd, 1) := by decide +kernel
theorem dX0_stepsTo_68 : decode cX0_stepsTo 68 = .ok (.lastore, 1) := by decide +kernel
theorem dX0_stepsTo_69 : decode cX0_stepsTo 69 = .ok (.iinc 4 1, 3) := by decide +kernel
theorem dX0_stepsTo_72 : decode cX0_stepsTo 72 = .ok (.goto (-65), 3) := by decide +kernel
theorem dX0_stepsTo_75 : decode cX0_stepsTo 75 = .ok (.aload_n 0, 1) := by decide +kernel
theorem dX0_stepsTo_76 : decode cX0_stepsTo 76 = .ok (.aload_n 1, 1) := by decide +kernel
theorem dX0_stepsTo_77 : decode cX0_stepsTo 77 = .ok (.iload_n 2, 1) := by decide +kernel
theorem dX0_stepsTo_78 : decode cX0_stepsTo 78 = .ok (.iconst 1, 1) := by decide +kernel
theorem dX0_stepsTo_79 : decode cX0_stepsTo 79 = .ok (.iload_n 3, 1) := by decide +kernel
theorem dX0_stepsTo_80 : decode cX0_stepsTo 80 = .ok (.ishl, 1) := by decide +kernel
theorem dX0_stepsTo_81 : decode cX0_stepsTo 81 = .ok (.invokevirtual 60, 3) := by decide +kernel
theorem dX0_stepsTo_84 : decode cX0_stepsTo 84 = .ok (.return_, 1) := by decide +kernel
theorem dX0_currentTo_0 : decode cX0_currentTo 0 = .ok (.aload_n 0, 1) := by decide +kernel
theorem dX0_currentTo_1 : decode cX0_currentTo 1 = .ok (.invokevirtual 35, 3) := by decide +kernel
theorem dX0_currentTo_4 : decode cX0_currentTo 4 = .ok (.aload_n 0, 1) := by decide +kernel
theorem dX0_currentTo_5 : decode cX0_currentTo 5 = .ok (.getfield 28, 3) := by decide +kernel
theorem dX0_currentTo_8 : decode cX0_currentTo 8 = .ok (.iload_n 3, 1) := by decide +kernel
theorem dX0_currentTo_9 : decode cX0_currentTo 9 = .ok (.lconst 1, 1) := by decide +kernel
theorem dX0_currentTo_10 : decode cX0_currentTo 10 = .ok (.lastore, 1) := by decide +kernel
theorem dX0_currentTo_11 : decode cX0_currentTo 11 = .ok (.aload_n 0, 1) := by decide +kernel
theorem dX0_currentTo_12 : decode cX0_currentTo 12 = .ok (.aload_n 1, 1) := by decide +kernel
theorem dX0_currentTo_13 : decode cX0_currentTo 13 = .ok (.iload_n 2, 1) := by decide +kernel
theorem dX0_currentTo_14 : decode cX0_currentTo 14 = .ok (.iconst 1, 1) := by decide +kernel
theorem dX0_currentTo_15 : decode cX0_currentTo 15 = .ok (.iload 4, 2) := by decide +kernel
theorem dX0_currentTo_17 : decode cX0_currentTo 17 = .ok (.ishl, 1) := by decide +kernel
theorem dX0_currentTo_18 : decode cX0_currentTo 18 = .ok (.invokevirtual 60, 3) := by decide +kernel
theorem dX0_currentTo_21 : decode cX0_currentTo 21 = .ok (.return_, 1) := by decide +kernel
theorem dX0_aheadOf_0 : decode cX0_aheadOf 0 = .ok (.aload_n 0, 1) := by decide +kernel
theorem dX0_aheadOf_1 : decode cX0_aheadOf 1 = .ok (.invokevirtual 35, 3) := by decide +kernel
theorem dX0_aheadOf_4 : decode cX0_aheadOf 4 = .ok (.iconst 0, 1) := by decide +kernel
theorem dX0_aheadOf_5 : decode cX0_aheadOf 5 = .ok (.istore 5, 2) := by decide +kernel
theorem dX0_aheadOf_7 : decode cX0_aheadOf 7 = .ok (.iload 5, 2) := by decide +kernel
theorem dX0_aheadOf_9 : decode cX0_aheadOf 9 = .ok (.aload_n 1, 1) := by decide +kernel
theorem dX0_aheadOf_10 : decode cX0_aheadOf 10 = .ok (.getfield 38, 3) := by decide +kernel
theorem dX0_aheadOf_13 : decode cX0_aheadOf 13 = .ok (.if_icmp .ge 52, 3) := by decide +kernel
theorem dX0_aheadOf_16 : decode cX0_aheadOf 16 = .ok (.iload_n 2, 1) := by decide +kernel
theorem dX0_aheadOf_17 : decode cX0_aheadOf 17 = .ok (.iload 5, 2) := by decide +kernel
theorem dX0_aheadOf_19 : decode cX0_aheadOf 19 = .ok (.invokestatic 43, 3) := by decide +kernel
theorem dX0_aheadOf_22 : decode cX0_aheadOf 22 = .ok (.ifCond .eq 37, 3) := by decide +kernel
theorem dX0_aheadOf_25 : decode cX0_aheadOf 25 = .ok (.aload_n 1, 1) := by decide +kernel
theorem dX0_aheadOf_26 : decode cX0_aheadOf 26 = .ok (.iload 5, 2) := by decide +kernel
theorem dX0_aheadOf_28 : decode cX0_aheadOf 28 = .ok (.iload 4, 2) := by decide +kernel
theorem dX0_aheadOf_30 : decode cX0_aheadOf 30 = .ok (.invokevirtual 64, 3) := by decide +kernel
theorem dX0_aheadOf_33 : decode cX0_aheadOf 33 = .ok (.ifCond .eq 26, 3) := by decide +kernel
theorem dX0_aheadOf_36 : decode cX0_aheadOf 36 = .ok (.aload_n 0, 1) := by decide +kernel
theorem dX0_aheadOf_37 : decode cX0_aheadOf 37 = .ok (.getfield 28, 3) := by decide +kernel
theorem dX0_aheadOf_40 : decode cX0_aheadOf 40 = .ok (.aload_n 1, 1) := by decide +kernel
theorem dX0_aheadOf_41 : decode cX0_aheadOf 41 = .ok (.iload 5, 2) := by decide +kernel
theorem dX0_aheadOf_43 : decode cX0_aheadOf 43 = .ok (.iload 4, 2) := by decide +kernel
theorem dX0_aheadOf_45 : decode cX0_aheadOf 45 = .ok (.invokevirtual 67, 3) := by decide +kernel
theorem dX0_aheadOf_48 : decode cX0_aheadOf 48 = .ok (.dup2, 1) := by decide +kernel
theorem dX0_aheadOf_49 : decode cX0_aheadOf 49 = .ok (.laload, 1) := by decide +kernel
theorem dX0_aheadOf_50 : decode cX0_aheadOf 50 = .ok (.aload_n 1, 1) := by decide +kernel
theorem dX0_aheadOf_51 : decode cX0_aheadOf 51 = .ok (.iload 5, 2) := by decide +kernel
theorem dX0_aheadOf_53 : decode cX0_aheadOf 53 = .ok (.invokevirtual 47, 3) := by decide +kernel
theorem dX0_aheadOf_56 : decode cX0_aheadOf 56 = .ok (.i2l, 1) := by decide +kernel
theorem dX0_aheadOf_57 : decode cX0_aheadOf 57 = .ok (.ladd, 1) := by decide +kernel
theorem dX0_aheadOf_58 : decode cX0_aheadOf 58 = .ok (.lastore, 1) := by decide +kernel
theorem dX0_aheadOf_59 : decode cX0_aheadOf 59 = .ok (.iinc 5 1, 3) := by decide +kernel
theorem dX0_aheadOf_62 : decode cX0_aheadOf 62 = .ok (.goto (-55), 3) := by decide +kernel
theorem dX0_aheadOf_65 : decode cX0_aheadOf 65 = .ok (.aload_n 0, 1) := by decide +kernel
theorem dX0_aheadOf_66 : decode cX0_aheadOf 66 = .ok (.aload_n 1, 1) := by decide +kernel
theorem dX0_aheadOf_67 : decode cX0_aheadOf 67 = .ok (.iload_n 2, 1) := by decide +kernel
theorem dX0_aheadOf_68 : decode cX0_aheadOf 68 = .ok (.iload_n 3, 1) := by decide +kernel
theorem dX0_aheadOf_69 : decode cX0_aheadOf 69 = .ok (.invokevirtual 60, 3) := by decide +kernel
theorem dX0_aheadOf_72 : decode cX0_aheadOf 72 = .ok (.return_, 1) := by decide +kernel
theorem dX0_nothingIsDue_0 : decode cX0_nothingIsDue 0 = .ok (.iconst 0, 1) := by decide +kernel
theorem dX0_nothingIsDue_1 : decode cX0_nothingIsDue 1 = .ok (.istore_n 1, 1) := by decide +kernel
theorem dX0_nothingIsDue_2 : decode cX0_nothingIsDue 2 = .ok (.iload_n 1, 1) := by decide +kernel
theorem dX0_nothingIsDue_3 : decode cX0_nothingIsDue 3 = .ok (.bipush 6, 2) := by decide +kernel
theorem dX0_nothingIsDue_5 : decode cX0_nothingIsDue 5 = .ok (.if_icmp .ge 16, 3) := by decide +kernel
theorem dX0_nothingIsDue_8 : decode cX0_nothingIsDue 8 = .ok (.aload_n 0, 1) := by decide +kernel
theorem dX0_nothingIsDue_9 : decode cX0_nothingIsDue 9 = .ok (.getfield 28, 3) := by decide +kernel
theorem dX0_nothingIsDue_12 : decode cX0_nothingIsDue 12 = .ok (.iload_n 1, 1) := by decide +kernel
theorem dX0_nothingIsDue_13 : decode cX0_nothingIsDue 13 = .ok (.lconst 0, 1) := by decide +kernel
theorem dX0_nothingIsDue_14 : decode cX0_nothingIsDue 14 = .ok (.lastore, 1) := by decide +kernel
theorem dX0_nothingIsDue_15 : decode cX0_nothingIsDue 15 = .ok (.iinc 1 1, 3) := by decide +kernel
theorem dX0_nothingIsDue_18 : decode cX0_nothingIsDue 18 = .ok (.goto (-16), 3) := by decide +kernel
theorem dX0_nothingIsDue_21 : decode cX0_nothingIsDue 21 = .ok (.return_, 1) := by decide +kernel
theorem dX0_solve_0 : decode cX0_solve 0 = .ok (.aload_n 0, 1) := by decide +kernel
theorem dX0_solve_1 : decode cX0_solve 1 = .ok (.aload_n 1, 1) := by decide +kernel
theorem dX0_solve_2 : decode cX0_solve 2 = .ok (.iload_n 3, 1) := by decide +kernel
theorem dX0_solve_3 : decode cX0_solve 3 = .ok (.iload_n 2, 1) := by decide +kernel
theorem dX0_solve_4 : decode cX0_solve 4 = .ok (.invokevirtual 71, 3) := by decide +kernel
theorem dX0_solve_7 : decode cX0_solve 7 = .ok (.iload_n 3, 1) := by decide +kernel
theorem dX0_solve_8 : decode cX0_solve 8 = .ok (.iconst (-1), 1) := by decide +kernel
theorem dX0_solve_9 : decode cX0_solve 9 = .ok (.ixor, 1) := by decide +kernel
theorem dX0_solve_10 : decode cX0_solve 10 = .ok (.iand, 1) := by decide +kernel
theorem dX0_solve_11 : decode cX0_solve 11 = .ok (.invokevirtual 74, 3) := by decide +kernel
theorem dX0_solve_14 : decode cX0_solve 14 = .ok (.iconst 0, 1) := by decide +kernel
theorem dX0_solve_15 : decode cX0_solve 15 = .ok (.istore 4, 2) := by decide +kernel
theorem dX0_solve_17 : decode cX0_solve 17 = .ok (.iload 4, 2) := by decide +kernel
theorem dX0_solve_19 : decode cX0_solve 19 = .ok (.aload_n 1, 1) := by decide +kernel
theorem dX0_solve_20 : decode cX0_solve 20 = .ok (.getfield 38, 3) := by decide +kernel
theorem dX0_solve_23 : decode cX0_solve 23 = .ok (.if_icmp .ge 52, 3) := by decide +kernel
theorem dX0_solve_26 : decode cX0_solve 26 = .ok (.iload_n 2, 1) := by decide +kernel
theorem dX0_solve_27 : decode cX0_solve 27 = .ok (.iload 4, 2) := by decide +kernel
theorem dX0_solve_29 : decode cX0_solve 29 = .ok (.invokestatic 43, 3) := by decide +kernel
theorem dX0_solve_32 : decode cX0_solve 32 = .ok (.ifCond .eq 37, 3) := by decide +kernel
theorem dX0_solve_35 : decode cX0_solve 35 = .ok (.aload_n 0, 1) := by decide +kernel
theorem dX0_solve_36 : decode cX0_solve 36 = .ok (.aload_n 0, 1) := by decide +kernel
theorem dX0_solve_37 : decode cX0_solve 37 = .ok (.getfield 24, 3) := by decide +kernel
theorem dX0_solve_40 : decode cX0_solve 40 = .ok (.aload_n 1, 1) := by decide +kernel
theorem dX0_solve_41 : decode cX0_solve 41 = .ok (.getfield 54, 3) := by decide +kernel
theorem dX0_solve_44 : decode cX0_solve 44 = .ok (.iload 4, 2) := by decide +kernel
theorem dX0_solve_46 : decode cX0_solve 46 = .ok (.iaload, 1) := by decide +kernel
theorem dX0_solve_47 : decode cX0_solve 47 = .ok (.iaload, 1) := by decide +kernel
theorem dX0_solve_48 : decode cX0_solve 48 = .ok (.aload_n 0, 1) := by decide +kernel
theorem dX0_solve_49 : decode cX0_solve 49 = .ok (.getfield 24, 3) := by decide +kernel
theorem dX0_solve_52 : decode cX0_solve 52 = .ok (.aload_n 1, 1) := by decide +kernel
theorem dX0_solve_53 : decode cX0_solve 53 = .ok (.getfield 57, 3) := by decide +kernel
theorem dX0_solve_56 : decode cX0_solve 56 = .ok (.iload 4, 2) := by decide +kernel
theorem dX0_solve_58 : decode cX0_solve 58 = .ok (.iaload, 1) := by decide +kernel
theorem dX0_solve_59 : decode cX0_solve 59 = .ok (.iaload, 1) := by decide +kernel
theorem dX0_solve_60 : decode cX0_solve 60 = .ok (.aload_n 1, 1) := by decide +kernel
theorem dX0_solve_61 : decode cX0_solve 61 = .ok (.iload 4, 2) := by decide +kernel
theorem dX0_solve_63 : decode cX0_solve 63 = .ok (.invokevirtual 47, 3) := by decide +kernel
theorem dX0_solve_66 : decode cX0_solve 66 = .ok (.invokevirtual 78, 3) := by decide +kernel
theorem dX0_solve_69 : decode cX0_solve 69 = .ok (.iinc 4 1, 3) := by decide +kernel
theorem dX0_solve_72 : decode cX0_solve 72 = .ok (.goto (-55), 3) := by decide +kernel
theorem dX0_solve_75 : decode cX0_solve 75 = .ok (.aload_n 0, 1) := by decide +kernel
theorem dX0_solve_76 : decode cX0_solve 76 = .ok (.lconst 1, 1) := by decide +kernel
theorem dX0_solve_77 : decode cX0_solve 77 = .ok (.putfield 15, 3) := by decide +kernel
theorem dX0_solve_80 : decode cX0_solve 80 = .ok (.iconst 0, 1) := by decide +kernel
theorem dX0_solve_81 : decode cX0_solve 81 = .ok (.istore 4, 2) := by decide +kernel
theorem dX0_solve_83 : decode cX0_solve 83 = .ok (.iload 4, 2) := by decide +kernel
theorem dX0_solve_85 : decode cX0_solve 85 = .ok (.aload_n 0, 1) := by decide +kernel
theorem dX0_solve_86 : decode cX0_solve 86 = .ok (.getfield 31, 3) := by decide +kernel
theorem dX0_solve_89 : decode cX0_solve 89 = .ok (.if_icmp .ge 33, 3) := by decide +kernel
theorem dX0_solve_92 : decode cX0_solve 92 = .ok (.aload_n 0, 1) := by decide +kernel
theorem dX0_solve_93 : decode cX0_solve 93 = .ok (.iload 4, 2) := by decide +kernel
theorem dX0_solve_95 : decode cX0_solve 95 = .ok (.aload_n 0, 1) := by decide +kernel
theorem dX0_solve_96 : decode cX0_solve 96 = .ok (.getfield 15, 3) := by decide +kernel
theorem dX0_solve_99 : decode cX0_solve 99 = .ok (.invokevirtual 82, 3) := by decide +kernel
theorem dX0_solve_102 : decode cX0_solve 102 = .ok (.aload_n 0, 1) := by decide +kernel
theorem dX0_solve_103 : decode cX0_solve 103 = .ok (.aload_n 0, 1) := by decide +kernel
theorem dX0_solve_104 : decode cX0_solve 104 = .ok (.getfield 21, 3) := by decide +kernel
theorem dX0_solve_107 : decode cX0_solve 107 = .ok (.iload 4, 2) := by decide +kernel
theorem dX0_solve_109 : decode cX0_solve 109 = .ok (.aaload, 1) := by decide +kernel
theorem dX0_solve_110 : decode cX0_solve 110 = .ok (.iload 4, 2) := by decide +kernel
theorem dX0_solve_112 : decode cX0_solve 112 = .ok (.laload, 1) := by decide +kernel
theorem dX0_solve_113 : decode cX0_solve 113 = .ok (.putfield 15, 3) := by decide +kernel
theorem dX0_solve_116 : decode cX0_solve 116 = .ok (.iinc 4 1, 3) := by decide +kernel
theorem dX0_solve_119 : decode cX0_solve 119 = .ok (.goto (-36), 3) := by decide +kernel
theorem dX0_solve_122 : decode cX0_solve 122 = .ok (.iconst 0, 1) := by decide +kernel
theorem dX0_solve_123 : decode cX0_solve 123 = .ok (.istore 4, 2) := by decide +kernel
theorem dX0_solve_125 : decode cX0_solve 125 = .ok (.iload 4, 2) := by decide +kernel
theorem dX0_solve_127 : decode cX0_solve 127 = .ok (.bipush 6, 2) := by decide +kernel
theorem dX0_solve_129 : decode cX0_solve 129 = .ok (.if_icmp .ge 45, 3) := by decide +kernel
theorem dX0_solve_132 : decode cX0_solve 132 = .ok (.aload_n 0, 1) := by decide +kernel
theorem dX0_solve_133 : decode cX0_solve 133 = .ok (.getfield 9, 3) := by decide +kernel
theorem dX0_solve_136 : decode cX0_solve 136 = .ok (.iload 4, 2) := by decide +kernel
theorem dX0_solve_138 : decode cX0_solve 138 = .ok (.aload_n 0, 1) := by decide +kernel
theorem dX0_solve_139 : decode cX0_solve 139 = .ok (.getfield 24, 3) := by decide +kernel
theorem dX0_solve_142 : decode cX0_solve 142 = .ok (.iload 4, 2) := by decide +kernel
theorem dX0_solve_144 : decode cX0_solve 144 = .ok (.iaload, 1) := by decide +kernel
theorem dX0_solve_145 : decode cX0_solve 145 = .ok (.ifCond .ge 7, 3) := by decide +kernel
theorem dX0_solve_148 : decode cX0_solve 148 = .ok (.lconst 0, 1) := by decide +kernel
theorem dX0_solve_149 : decode cX0_solve 149 = .ok (.goto 18, 3) := by decide +kernel
theorem dX0_solve_152 : decode cX0_solve 152 = .ok (.aload_n 0, 1) := by decide +kernel
theorem dX0_solve_153 : decode cX0_solve 153 = .ok (.getfield 21, 3) := by decide +kernel
theorem dX0_solve_156 : decode cX0_solve 156 = .ok (.aload_n 0, 1) := by decide +kernel
theorem dX0_solve_157 : decode cX0_solve 157 = .ok (.getfield 24, 3) := by decide +kernel
theorem dX0_solve_160 : decode cX0_solve 160 = .ok (.iload 4, 2) := by decide +kernel
theorem dX0_solve_162 : decode cX0_solve 162 = .ok (.iaload, 1) := by decide +kernel
theorem dX0_solve_163 : decode cX0_solve 163 = .ok (.aaload, 1) := by decide +kernel
theorem dX0_solve_164 : decode cX0_solve 164 = .ok (.bipush 6, 2) := by decide +kernel
theorem dX0_solve_166 : decode cX0_solve 166 = .ok (.laload, 1) := by decide +kernel
theorem dX0_solve_167 : decode cX0_solve 167 = .ok (.lastore, 1) := by decide +kernel
theorem dX0_solve_168 : decode cX0_solve 168 = .ok (.iinc 4 1, 3) := by decide +kernel
theorem dX0_solve_171 : decode cX0_solve 171 = .ok (.goto (-46), 3) := by decide +kernel
theorem dX0_solve_174 : decode cX0_solve 174 = .ok (.return_, 1) := by decide +kernel
theorem dX0_layRows_0 : decode cX0_layRows 0 = .ok (.aload_n 0, 1) := by decide +kernel
theorem dX0_layRows_1 : decode cX0_layRows 1 = .ok (.iconst 0, 1) := by decide +kernel
theorem dX0_layRows_2 : decode cX0_layRows 2 = .ok (.putfield 31, 3) := by decide +kernel
theorem dX0_layRows_5 : decode cX0_layRows 5 = .ok (.iconst 0, 1) := by decide +kernel
theorem dX0_layRows_6 : decode cX0_layRows 6 = .ok (.istore_n 2, 1) := by decide +kernel
theorem dX0_layRows_7 : decode cX0_layRows 7 = .ok (.iload_n 2, 1) := by decide +kernel
theorem dX0_layRows_8 : decode cX0_layRows 8 = .ok (.bipush 6, 2) := by decide +kernel
theorem dX0_layRows_10 : decode cX0_layRows 10 = .ok (.if_icmp .ge 88, 3) := by decide +kernel
theorem dX0_layRows_13 : decode cX0_layRows 13 = .ok (.aload_n 0, 1) := by decide +kernel
theorem dX0_layRows_14 : decode cX0_layRows 14 = .ok (.getfield 24, 3) := by decide +kernel
theorem dX0_layRows_17 : decode cX0_layRows 17 = .ok (.iload_n 2, 1) := by decide +kernel
theorem dX0_layRows_18 : decode cX0_layRows 18 = .ok (.iconst (-1), 1) := by decide +kernel
theorem dX0_layRows_19 : decode cX0_layRows 19 = .ok (.iastore, 1) := by decide +kernel
theorem dX0_layRows_20 : decode cX0_layRows 20 = .ok (.iload_n 1, 1) := by decide +kernel
theorem dX0_layRows_21 : decode cX0_layRows 21 = .ok (.iload_n 2, 1) := by decide +kernel
theorem dX0_layRows_22 : decode cX0_layRows 22 = .ok (.invokestatic 43, 3) := by decide +kernel
theorem dX0_layRows_25 : decode cX0_layRows 25 = .ok (.ifCond .eq 67, 3) := by decide +kernel
theorem dX0_layRows_28 : decode cX0_layRows 28 = .ok (.iconst 0, 1) := by decide +kernel
theorem dX0_layRows_29 : decode cX0_layRows 29 = .ok (.istore_n 3, 1) := by decide +kernel
theorem dX0_layRows_30 : decode cX0_layRows 30 = .ok (.iload_n 3, 1) := by decide +kernel
theorem dX0_layRows_31 : decode cX0_layRows 31 = .ok (.bipush 6, 2) := by decide +kernel
theorem dX0_layRows_33 : decode cX0_layRows 33 = .ok (.if_icmp .ge 21, 3) := by decide +kernel
theorem dX0_layRows_36 : decode cX0_layRows 36 = .ok (.aload_n 0, 1) := by decide +kernel
theorem dX0_layRows_37 : decode cX0_layRows 37 = .ok (.getfield 21, 3) := by decide +kernel
theorem dX0_layRows_40 : decode cX0_layRows 40 = .ok (.aload_n 0, 1) := by decide +kernel
theorem dX0_layRows_41 : decode cX0_layRows 41 = .ok (.getfield 31, 3) := by decide +kernel
theorem dX0_layRows_44 : decode cX0_layRows 44 = .ok (.aaload, 1) := by decide +kernel
theorem dX0_layRows_45 : decode cX0_layRows 45 = .ok (.iload_n 3, 1) := by decide +kernel
theorem dX0_layRows_46 : decode cX0_layRows 46 = .ok (.lconst 0, 1) := by decide +kernel
theorem dX0_layRows_47 : decode cX0_layRows 47 = .ok (.lastore, 1) := by decide +kernel
theorem dX0_layRows_48 : decode cX0_layRows 48 = .ok (.iinc 3 1, 3) := by decide +kernel
theorem dX0_layRows_51 : decode cX0_layRows 51 = .ok (.goto (-21), 3) := by decide +kernel
theorem dX0_layRows_54 : decode cX0_layRows 54 = .ok (.aload_n 0, 1) := by decide +kernel
theorem dX0_layRows_55 : decode cX0_layRows 55 = .ok (.getfield 21, 3) := by decide +kernel
theorem dX0_layRows_58 : decode cX0_layRows 58 = .ok (.aload_n 0, 1) := by decide +kernel
theorem dX0_layRows_59 : decode cX0_layRows 59 = .ok (.getfield 31, 3) := by decide +kernel
theorem dX0_layRows_62 : decode cX0_layRows 62 = .ok (.aaload, 1) := by decide +kernel
theorem dX0_layRows_63 : decode cX0_layRows 63 = .ok (.bipush 6, 2) := by decide +kernel
theorem dX0_layRows_65 : decode cX0_layRows 65 = .ok (.aload_n 0, 1) := by decide +kernel
theorem dX0_layRows_66 : decode cX0_layRows 66 = .ok (.getfield 28, 3) := by decide +kernel
theorem dX0_layRows_69 : decode cX0_layRows 69 = .ok (.iload_n 2, 1) := by decide +kernel
theorem dX0_layRows_70 : decode cX0_layRows 70 = .ok (.laload, 1) := by decide +kernel
theorem dX0_layRows_71 : decode cX0_layRows 71 = .ok (.lastore, 1) := by decide +kernel
theorem dX0_layRows_72 : decode cX0_layRows 72 = .ok (.aload_n 0, 1) := by decide +kernel
theorem dX0_layRows_73 : decode cX0_layRows 73 = .ok (.getfield 24, 3) := by decide +kernel
theorem dX0_layRows_76 : decode cX0_layRows 76 = .ok (.iload_n 2, 1) := by decide +kernel
theorem dX0_layRows_77 : decode cX0_layRows 77 = .ok (.aload_n 0, 1) := by decide +kernel
theorem dX0_layRows_78 : decode cX0_layRows 78 = .ok (.getfield 31, 3) := by decide +kernel
theorem dX0_layRows_81 : decode cX0_layRows 81 = .ok (.iastore, 1) := by decide +kernel
theorem dX0_layRows_82 : decode cX0_layRows 82 = .ok (.aload_n 0, 1) := by decide +kernel
theorem dX0_layRows_83 : decode cX0_layRows 83 = .ok (.dup, 1) := by decide +kernel
theorem dX0_layRows_84 : decode cX0_layRows 84 = .ok (.getfield 31, 3) := by decide +kernel
theorem dX0_layRows_87 : decode cX0_layRows 87 = .ok (.iconst 1, 1) := by decide +kernel
theorem dX0_layRows_88 : decode cX0_layRows 88 = .ok (.iadd, 1) := by decide +kernel
theorem dX0_layRows_89 : decode cX0_layRows 89 = .ok (.putfield 31, 3) := by decide +kernel
theorem dX0_layRows_92 : decode cX0_layRows 92 = .ok (.iinc 2 1, 3) := by decide +kernel
theorem dX0_layRows_95 : decode cX0_layRows 95 = .ok (.goto (-88), 3) := by decide +kernel
theorem dX0_layRows_98 : decode cX0_layRows 98 = .ok (.return_, 1) := by decide +kernel
theorem dX0_addWay_0 : decode cX0_addWay 0 = .ok (.iload_n 1, 1) := by decide +kernel
theorem dX0_addWay_1 : decode cX0_addWay 1 = .ok (.ifCond .lt 16, 3) := by decide +kernel
theorem dX0_addWay_4 : decode cX0_addWay 4 = .ok (.aload_n 0, 1) := by decide +kernel
theorem dX0_addWay_5 : decode cX0_addWay 5 = .ok (.getfield 21, 3) := by decide +kernel
theorem dX0_addWay_8 : decode cX0_addWay 8 = .ok (.iload_n 1, 1) := by decide +kernel
theorem dX0_addWay_9 : decode cX0_addWay 9 = .ok (.aaload, 1) := by decide +kernel
theorem dX0_addWay_10 : decode cX0_addWay 10 = .ok (.iload_n 1, 1) := by decide +kernel
theorem dX0_addWay_11 : decode cX0_addWay 11 = .ok (.dup2, 1) := by decide +kernel
theorem dX0_addWay_12 : decode cX0_addWay 12 = .ok (.laload, 1) := by decide +kernel
theorem dX0_addWay_13 : decode cX0_addWay 13 = .ok (.iload_n 3, 1) := by decide +kernel
theorem dX0_addWay_14 : decode cX0_addWay 14 = .ok (.i2l, 1) := by decide +kernel
theorem dX0_addWay_15 : decode cX0_addWay 15 = .ok (.ladd, 1) := by decide +kernel
theorem dX0_addWay_16 : decode cX0_addWay 16 = .ok (.lastore, 1) := by decide +kernel
theorem dX0_addWay_17 : decode cX0_addWay 17 = .ok (.iload_n 2, 1) := by decide +kernel
theorem dX0_addWay_18 : decode cX0_addWay 18 = .ok (.ifCond .lt 16, 3) := by decide +kernel
theorem dX0_addWay_21 : decode cX0_addWay 21 = .ok (.aload_n 0, 1) := by decide +kernel
theorem dX0_addWay_22 : decode cX0_addWay 22 = .ok (.getfield 21, 3) := by decide +kernel
theorem dX0_addWay_25 : decode cX0_addWay 25 = .ok (.iload_n 2, 1) := by decide +kernel
theorem dX0_addWay_26 : decode cX0_addWay 26 = .ok (.aaload, 1) := by decide +kernel
theorem dX0_addWay_27 : decode cX0_addWay 27 = .ok (.iload_n 2, 1) := by decide +kernel
theorem dX0_addWay_28 : decode cX0_addWay 28 = .ok (.dup2, 1) := by decide +kernel
theorem dX0_addWay_29 : decode cX0_addWay 29 = .ok (.laload, 1) := by decide +kernel
theorem dX0_addWay_30 : decode cX0_addWay 30 = .ok (.iload_n 3, 1) := by decide +kernel
theorem dX0_addWay_31 : decode cX0_addWay 31 = .ok (.i2l, 1) := by decide +kernel
theorem dX0_addWay_32 : decode cX0_addWay 32 = .ok (.ladd, 1) := by decide +kernel
theorem dX0_addWay_33 : decode cX0_addWay 33 = .ok (.lastore, 1) := by decide +kernel
theorem dX0_addWay_34 : decode cX0_addWay 34 = .ok (.iload_n 1, 1) := by decide +kernel
theorem dX0_addWay_35 : decode cX0_addWay 35 = .ok (.ifCond .lt 33, 3) := by decide +kernel
theorem dX0_addWay_38 : decode cX0_addWay 38 = .ok (.iload_n 2, 1) := by decide +kernel
theorem dX0_addWay_39 : decode cX0_addWay 39 = .ok (.ifCond .lt 29, 3) := by decide +kernel
theorem dX0_addWay_42 : decode cX0_addWay 42 = .ok (.aload_n 0, 1) := by decide +kernel
theorem dX0_addWay_43 : decode cX0_addWay 43 = .ok (.getfield 21, 3) := by decide +kernel
theorem dX0_addWay_46 : decode cX0_addWay 46 = .ok (.iload_n 1, 1) := by decide +kernel
theorem dX0_addWay_47 : decode cX0_addWay 47 = .ok (.aaload, 1) := by decide +kernel
theorem dX0_addWay_48 : decode cX0_addWay 48 = .ok (.iload_n 2, 1) := by decide +kernel
theorem dX0_addWay_49 : decode cX0_addWay 49 = .ok (.dup2, 1) := by decide +kernel
theorem dX0_addWay_50 : decode cX0_addWay 50 = .ok (.laload, 1) := by decide +kernel
theorem dX0_addWay_51 : decode cX0_addWay 51 = .ok (.iload_n 3, 1) := by decide +kernel
theorem dX0_addWay_52 : decode cX0_addWay 52 = .ok (.i2l, 1) := by decide +kernel
theorem dX0_addWay_53 : decode cX0_addWay 53 = .ok (.lsub, 1) := by decide +kernel
theorem dX0_addWay_54 : decode cX0_addWay 54 = .ok (.lastore, 1) := by decide +kernel
theorem dX0_addWay_55 : decode cX0_addWay 55 = .ok (.aload_n 0, 1) := by decide +kernel
theorem dX0_addWay_56 : decode cX0_addWay 56 = .ok (.getfield 21, 3) := by decide +kernel
theorem dX0_addWay_59 : decode cX0_addWay 59 = .ok (.iload_n 2, 1) := by decide +kernel
theorem dX0_addWay_60 : decode cX0_addWay 60 = .ok (.aaload, 1) := by decide +kernel
theorem dX0_addWay_61 : decode cX0_addWay 61 = .ok (.iload_n 1, 1) := by decide +kernel
theorem dX0_addWay_62 : decode cX0_addWay 62 = .ok (.dup2, 1) := by decide +kernel
theorem dX0_addWay_63 : decode cX0_addWay 63 = .ok (.laload, 1) := by decide +kernel
theorem dX0_addWay_64 : decode cX0_addWay 64 = .ok (.iload_n 3, 1) := by decide +kernel
theorem dX0_addWay_65 : decode cX0_addWay 65 = .ok (.i2l, 1) := by decide +kernel
theorem dX0_addWay_66 : decode cX0_addWay 66 = .ok (.lsub, 1) := by decide +kernel
theorem dX0_addWay_67 : decode cX0_addWay 67 = .ok (.lastore, 1) := by decide +kernel
theorem dX0_addWay_68 : decode cX0_addWay 68 = .ok (.return_, 1) := by decide +kernel
theorem dX0_clearColumn_0 : decode cX0_clearColumn 0 = .ok (.aload_n 0, 1) := by decide +kernel
theorem dX0_clearColumn_1 : decode cX0_clearColumn 1 = .ok (.getfield 21, 3) := by decide +kernel
theorem dX0_clearColumn_4 : decode cX0_clearColumn 4 = .ok (.iload_n 1, 1) := by decide +kernel
theorem dX0_clearColumn_5 : decode cX0_clearColumn 5 = .ok (.aaload, 1) := by decide +kernel
theorem dX0_clearColumn_6 : decode cX0_clearColumn 6 = .ok (.iload_n 1, 1) := by decide +kernel
theorem dX0_clearColumn_7 : decode cX0_clearColumn 7 = .ok (.laload, 1) := by decide +kernel
theorem dX0_clearColumn_8 : decode cX0_clearColumn 8 = .ok (.lstore 4, 2) := by decide +kernel
theorem dX0_clearColumn_10 : decode cX0_clearColumn 10 = .ok (.iconst 0, 1) := by decide +kernel
theorem dX0_clearColumn_11 : decode cX0_clearColumn 11 = .ok (.istore 6, 2) := by decide +kernel
theorem dX0_clearColumn_13 : decode cX0_clearColumn 13 = .ok (.iload 6, 2) := by decide +kernel
theorem dX0_clearColumn_15 : decode cX0_clearColumn 15 = .ok (.aload_n 0, 1) := by decide +kernel
theorem dX0_clearColumn_16 : decode cX0_clearColumn 16 = .ok (.getfield 31, 3) := by decide +kernel
theorem dX0_clearColumn_19 : decode cX0_clearColumn 19 = .ok (.if_icmp .ge 129, 3) := by decide +kernel
theorem dX0_clearColumn_22 : decode cX0_clearColumn 22 = .ok (.iload 6, 2) := by decide +kernel
theorem dX0_clearColumn_24 : decode cX0_clearColumn 24 = .ok (.iload_n 1, 1) := by decide +kernel
theorem dX0_clearColumn_25 : decode cX0_clearColumn 25 = .ok (.if_icmp .ne 6, 3) := by decide +kernel
theorem dX0_clearColumn_28 : decode cX0_clearColumn 28 = .ok (.goto 114, 3) := by decide +kernel
theorem dX0_clearColumn_31 : decode cX0_clearColumn 31 = .ok (.aload_n 0, 1) := by decide +kernel
theorem dX0_clearColumn_32 : decode cX0_clearColumn 32 = .ok (.getfield 21, 3) := by decide +kernel
theorem dX0_clearColumn_35 : decode cX0_clearColumn 35 = .ok (.iload 6, 2) := by decide +kernel
theorem dX0_clearColumn_37 : decode cX0_clearColumn 37 = .ok (.aaload, 1) := by decide +kernel
theorem dX0_clearColumn_38 : decode cX0_clearColumn 38 = .ok (.iload_n 1, 1) := by decide +kernel
theorem dX0_clearColumn_39 : decode cX0_clearColumn 39 = .ok (.laload, 1) := by decide +kernel
theorem dX0_clearColumn_40 : decode cX0_clearColumn 40 = .ok (.lstore 7, 2) := by decide +kernel
theorem dX0_clearColumn_42 : decode cX0_clearColumn 42 = .ok (.iload_n 1, 1) := by decide +kernel
theorem dX0_clearColumn_43 : decode cX0_clearColumn 43 = .ok (.iconst 1, 1) := by decide +kernel
theorem dX0_clearColumn_44 : decode cX0_clearColumn 44 = .ok (.iadd, 1) := by decide +kernel
theorem dX0_clearColumn_45 : decode cX0_clearColumn 45 = .ok (.istore 9, 2) := by decide +kernel
theorem dX0_clearColumn_47 : decode cX0_clearColumn 47 = .ok (.iload 9, 2) := by decide +kernel
theorem dX0_clearColumn_49 : decode cX0_clearColumn 49 = .ok (.aload_n 0, 1) := by decide +kernel
theorem dX0_clearColumn_50 : decode cX0_clearColumn 50 = .ok (.getfield 31, 3) := by decide +kernel
theorem dX0_clearColumn_53 : decode cX0_clearColumn 53 = .ok (.if_icmp .ge 49, 3) := by decide +kernel
theorem dX0_clearColumn_56 : decode cX0_clearColumn 56 = .ok (.aload_n 0, 1) := by decide +kernel
theorem dX0_clearColumn_57 : decode cX0_clearColumn 57 = .ok (.getfield 21, 3) := by decide +kernel
theorem dX0_clearColumn_60 : decode cX0_clearColumn 60 = .ok (.iload 6, 2) := by decide +kernel
theorem dX0_clearColumn_62 : decode cX0_clearColumn 62 = .ok (.aaload, 1) := by decide +kernel
theorem dX0_clearColumn_63 : decode cX0_clearColumn 63 = .ok (.iload 9, 2) := by decide +kernel
theorem dX0_clearColumn_65 : decode cX0_clearColumn 65 = .ok (.lload 4, 2) := by decide +kernel
theorem dX0_clearColumn_67 : decode cX0_clearColumn 67 = .ok (.aload_n 0, 1) := by decide +kernel
theorem dX0_clearColumn_68 : decode cX0_clearColumn 68 = .ok (.getfield 21, 3) := by decide +kernel
theorem dX0_clearColumn_71 : decode cX0_clearColumn 71 = .ok (.iload 6, 2) := by decide +kernel
theorem dX0_clearColumn_73 : decode cX0_clearColumn 73 = .ok (.aaload, 1) := by decide +kernel
theorem dX0_clearColumn_74 : decode cX0_clearColumn 74 = .ok (.iload 9, 2) := by decide +kernel
theorem dX0_clearColumn_76 : decode cX0_clearColumn 76 = .ok (.laload, 1) := by decide +kernel
theorem dX0_clearColumn_77 : decode cX0_clearColumn 77 = .ok (.lmul, 1) := by decide +kernel
theorem dX0_clearColumn_78 : decode cX0_clearColumn 78 = .ok (.lload 7, 2) := by decide +kernel
theorem dX0_clearColumn_80 : decode cX0_clearColumn 80 = .ok (.aload_n 0, 1) := by decide +kernel
theorem dX0_clearColumn_81 : decode cX0_clearColumn 81 = .ok (.getfield 21, 3) := by decide +kernel
theorem dX0_clearColumn_84 : decode cX0_clearColumn 84 = .ok (.iload_n 1, 1) := by decide +kernel
theorem dX0_clearColumn_85 : decode cX0_clearColumn 85 = .ok (.aaload, 1) := by decide +kernel
theorem dX0_clearColumn_86 : decode cX0_clearColumn 86 = .ok (.iload 9, 2) := by decide +kernel
theorem dX0_clearColumn_88 : decode cX0_clearColumn 88 = .ok (.laload, 1) := by decide +kernel
theorem dX0_clearColumn_89 : decode cX0_clearColumn 89 = .ok (.lmul, 1) := by decide +kernel
theorem dX0_clearColumn_90 : decode cX0_clearColumn 90 = .ok (.lsub, 1) := by decide +kernel
theorem dX0_clearColumn_91 : decode cX0_clearColumn 91 = .ok (.lload_n 2, 1) := by decide +kernel
theorem dX0_clearColumn_92 : decode cX0_clearColumn 92 = .ok (.invokestatic 86, 3) := by decide +kernel
theorem dX0_clearColumn_95 : decode cX0_clearColumn 95 = .ok (.lastore, 1) := by decide +kernel
theorem dX0_clearColumn_96 : decode cX0_clearColumn 96 = .ok (.iinc 9 1, 3) := by decide +kernel
theorem dX0_clearColumn_99 : decode cX0_clearColumn 99 = .ok (.goto (-52), 3) := by decide +kernel
theorem dX0_clearColumn_102 : decode cX0_clearColumn 102 = .ok (.aload_n 0, 1) := by decide +kernel
theorem dX0_clearColumn_103 : decode cX0_clearColumn 103 = .ok (.getfield 21, 3) := by decide +kernel
theorem dX0_clearColumn_106 : decode cX0_clearColumn 106 = .ok (.iload 6, 2) := by decide +kernel
theorem dX0_clearColumn_108 : decode cX0_clearColumn 108 = .ok (.aaload, 1) := by decide +kernel
theorem dX0_clearColumn_109 : decode cX0_clearColumn 109 = .ok (.bipush 6, 2) := by decide +kernel
theorem dX0_clearColumn_111 : decode cX0_clearColumn 111 = .ok (.lload 4, 2) := by decide +kernel
theorem dX0_clearColumn_113 : decode cX0_clearColumn 113 = .ok (.aload_n 0, 1) := by decide +kernel
theorem dX0_clearColumn_114 : decode cX0_clearColumn 114 = .ok (.getfield 21, 3) := by decide +kernel
theorem dX0_clearColumn_117 : decode cX0_clearColumn 117 = .ok (.iload 6, 2) := by decide +kernel
theorem dX0_clearColumn_119 : decode cX0_clearColumn 119 = .ok (.aaload, 1) := by decide +kernel
theorem dX0_clearColumn_120 : decode cX0_clearColumn 120 = .ok (.bipush 6, 2) := by decide +kernel
theorem dX0_clearColumn_122 : decode cX0_clearColumn 122 = .ok (.laload, 1) := by decide +kernel
theorem dX0_clearColumn_123 : decode cX0_clearColumn 123 = .ok (.lmul, 1) := by decide +kernel
theorem dX0_clearColumn_124 : decode cX0_clearColumn 124 = .ok (.lload 7, 2) := by decide +kernel
theorem dX0_clearColumn_126 : decode cX0_clearColumn 126 = .ok (.aload_n 0, 1) := by decide +kernel
theorem dX0_clearColumn_127 : decode cX0_clearColumn 127 = .ok (.getfield 21, 3) := by decide +kernel
theorem dX0_clearColumn_130 : decode cX0_clearColumn 130 = .ok (.iload_n 1, 1) := by decide +kernel
theorem dX0_clearColumn_131 : decode cX0_clearColumn 131 = .ok (.aaload, 1) := by decide +kernel
theorem dX0_clearColumn_132 : decode cX0_clearColumn 132 = .ok (.bipush 6, 2) := by decide +kernel
theorem dX0_clearColumn_134 : decode cX0_clearColumn 134 = .ok (.laload, 1) := by decide +kernel
theorem dX0_clearColumn_135 : decode cX0_clearColumn 135 = .ok (.lmul, 1) := by decide +kernel
theorem dX0_clearColumn_136 : decode cX0_clearColumn 136 = .ok (.lsub, 1) := by decide +kernel
theorem dX0_clearColumn_137 : decode cX0_clearColumn 137 = .ok (.lload_n 2, 1) := by decide +kernel
theorem dX0_clearColumn_138 : decode cX0_clearColumn 138 = .ok (.invokestatic 86, 3) := by decide +kernel
theorem dX0_clearColumn_141 : decode cX0_clearColumn 141 = .ok (.lastore, 1) := by decide +kernel
theorem dX0_clearColumn_142 : decode cX0_clearColumn 142 = .ok (.iinc 6 1, 3) := by decide +kernel
theorem dX0_clearColumn_145 : decode cX0_clearColumn 145 = .ok (.goto (-132), 3) := by decide +kernel
theorem dX0_clearColumn_148 : decode cX0_clearColumn 148 = .ok (.return_, 1) := by decide +kernel
theorem dX1_init_0 : decode cX1_init 0 = .ok (.aload_n 0, 1) := by decide +kernel
theorem dX1_init_1 : decode cX1_init 1 = .ok (.invokespecial 3, 3) := by decide +kernel
theorem dX1_init_4 : decode cX1_init 4 = .ok (.aload_n 0, 1) := by decide +kernel
theorem dX1_init_5 : decode cX1_init 5 = .ok (.iconst 3, 1) := by decide +kernel
theorem dX1_init_6 : decode cX1_init 6 = .ok (.bipush 20, 2) := by decide +kernel
theorem dX1_init_8 : decode cX1_init 8 = .ok (.multianewarray 9 2, 4) := by decide +kernel
theorem dX1_init_12 : decode cX1_init 12 = .ok (.putfield 11, 3) := by decide +kernel
theorem dX1_init_15 : decode cX1_init 15 = .ok (.aload_n 0, 1) := by decide +kernel
theorem dX1_init_16 : decode cX1_init 16 = .ok (.iconst 3, 1) := by decide +kernel
theorem dX1_init_17 : decode cX1_init 17 = .ok (.newarray .int, 2) := by decide +kernel
theorem dX1_init_19 : decode cX1_init 19 = .ok (.dup, 1) := by decide +kernel
theorem dX1_init_20 : decode cX1_init 20 = .ok (.iconst 0, 1) := by decide +kernel
theorem dX1_init_21 : decode cX1_init 21 = .ok (.iconst (-1), 1) := by decide +kernel
theorem dX1_init_22 : decode cX1_init 22 = .ok (.iastore, 1) := by decide +kernel
theorem dX1_init_23 : decode cX1_init 23 = .ok (.dup, 1) := by decide +kernel
theorem dX1_init_24 : decode cX1_init 24 = .ok (.iconst 1, 1) := by decide +kernel
theorem dX1_init_25 : decode cX1_init 25 = .ok (.iconst (-1), 1) := by decide +kernel
theorem dX1_init_26 : decode cX1_init 26 = .ok (.iastore, 1) := by decide +kernel
theorem dX1_init_27 : decode cX1_init 27 = .ok (.dup, 1) := by decide +kernel
theorem dX1_init_28 : decode cX1_init 28 = .ok (.iconst 2, 1) := by decide +kernel
theorem dX1_init_29 : decode cX1_init 29 = .ok (.iconst (-1), 1) := by decide +kernel
theorem dX1_init_30 : decode cX1_init 30 = .ok (.iastore, 1) := by decide +kernel
theorem dX1_init_31 : decode cX1_init 31 = .ok (.putfield 16, 3) := by decide +kernel
theorem dX1_init_34 : decode cX1_init 34 = .ok (.return_, 1) := by decide +kernel
theorem dX1_make_0 : decode cX1_make 0 = .ok (.iload_n 1, 1) := by decide +kernel
theorem dX1_make_1 : decode cX1_make 1 = .ok (.ifCond .lt 8, 3) := by decide +kernel
theorem dX1_make_4 : decode cX1_make 4 = .ok (.iload_n 1, 1) := by decide +kernel
theorem dX1_make_5 : decode cX1_make 5 = .ok (.iconst 3, 1) := by decide +kernel
theorem dX1_make_6 : decode cX1_make 6 = .ok (.if_icmp .lt 5, 3) := by decide +kernel
theorem dX1_make_9 : decode cX1_make 9 = .ok (.iconst (-1), 1) := by decide +kernel
theorem dX1_make_10 : decode cX1_make 10 = .ok (.ireturn, 1) := by decide +kernel
theorem dX1_make_11 : decode cX1_make 11 = .ok (.iload_n 2, 1) := by decide +kernel
theorem dX1_make_12 : decode cX1_make 12 = .ok (.bipush 20, 2) := by decide +kernel
theorem dX1_make_14 : decode cX1_make 14 = .ok (.if_icmp .le 6, 3) := by decide +kernel
theorem dX1_make_17 : decode cX1_make 17 = .ok (.bipush (-6), 2) := by decide +kernel
theorem dX1_make_19 : decode cX1_make 19 = .ok (.ireturn, 1) := by decide +kernel
theorem dX1_make_20 : decode cX1_make 20 = .ok (.iload_n 2, 1) := by decide +kernel
theorem dX1_make_21 : decode cX1_make 21 = .ok (.ifCond .ge 6, 3) := by decide +kernel
theorem dX1_make_24 : decode cX1_make 24 = .ok (.bipush (-14), 2) := by decide +kernel
theorem dX1_make_26 : decode cX1_make 26 = .ok (.ireturn, 1) := by decide +kernel
theorem dX1_make_27 : decode cX1_make 27 = .ok (.iconst 0, 1) := by decide +kernel
theorem dX1_make_28 : decode cX1_make 28 = .ok (.istore_n 3, 1) := by decide +kernel
theorem dX1_make_29 : decode cX1_make 29 = .ok (.iload_n 3, 1) := by decide +kernel
theorem dX1_make_30 : decode cX1_make 30 = .ok (.iload_n 2, 1) := by decide +kernel
theorem dX1_make_31 : decode cX1_make 31 = .ok (.if_icmp .ge 18, 3) := by decide +kernel
theorem dX1_make_34 : decode cX1_make 34 = .ok (.aload_n 0, 1) := by decide +kernel
theorem dX1_make_35 : decode cX1_make 35 = .ok (.getfield 11, 3) := by decide +kernel
theorem dX1_make_38 : decode cX1_make 38 = .ok (.iload_n 1, 1) := by decide +kernel
theorem dX1_make_39 : decode cX1_make 39 = .ok (.aaload, 1) := by decide +kernel
theorem dX1_make_40 : decode cX1_make 40 = .ok (.iload_n 3, 1) := by decide +kernel
theorem dX1_make_41 : decode cX1_make 41 = .ok (.lconst 0, 1) := by decide +kernel
theorem dX1_make_42 : decode cX1_make 42 = .ok (.lastore, 1) := by decide +kernel
theorem dX1_make_43 : decode cX1_make 43 = .ok (.iinc 3 1, 3) := by decide +kernel
theorem dX1_make_46 : decode cX1_make 46 = .ok (.goto (-17), 3) := by decide +kernel
theorem dX1_make_49 : decode cX1_make 49 = .ok (.aload_n 0, 1) := by decide +kernel
theorem dX1_make_50 : decode cX1_make 50 = .ok (.getfield 16, 3) := by decide +kernel
theorem dX1_make_53 : decode cX1_make 53 = .ok (.iload_n 1, 1) := by decide +kernel
theorem dX1_make_54 : decode cX1_make 54 = .ok (.iload_n 2, 1) := by decide +kernel
theorem dX1_make_55 : decode cX1_make 55 = .ok (.iastore, 1) := by decide +kernel
theorem dX1_make_56 : decode cX1_make 56 = .ok (.iconst 1, 1) := by decide +kernel
theorem dX1_make_57 : decode cX1_make 57 = .ok (.ireturn, 1) := by decide +kernel
theorem dX1_refusalOf_0 : decode cX1_refusalOf 0 = .ok (.iload_n 1, 1) := by decide +kernel
theorem dX1_refusalOf_1 : decode cX1_refusalOf 1 = .ok (.ifCond .lt 8, 3) := by decide +kernel
theorem dX1_refusalOf_4 : decode cX1_refusalOf 4 = .ok (.iload_n 1, 1) := by decide +kernel
theorem dX1_refusalOf_5 : decode cX1_refusalOf 5 = .ok (.iconst 3, 1) := by decide +kernel
theorem dX1_refusalOf_6 : decode cX1_refusalOf 6 = .ok (.if_icmp .lt 5, 3) := by decide +kernel
theorem dX1_refusalOf_9 : decode cX1_refusalOf 9 = .ok (.iconst (-1), 1) := by decide +kernel
theorem dX1_refusalOf_10 : decode cX1_refusalOf 10 = .ok (.ireturn, 1) := by decide +kernel
theorem dX1_refusalOf_11 : decode cX1_refusalOf 11 = .ok (.aload_n 0, 1) := by decide +kernel
theorem dX1_refusalOf_12 : decode cX1_refusalOf 12 = .ok (.getfield 16, 3) := by decide +kernel
theorem dX1_refusalOf_15 : decode cX1_refusalOf 15 = .ok (.iload_n 1, 1) := by decide +kernel
theorem dX1_refusalOf_16 : decode cX1_refusalOf 16 = .ok (.iaload, 1) := by decide +kernel
theorem dX1_refusalOf_17 : decode cX1_refusalOf 17 = .ok (.ifCond .ge 8, 3) := by decide +kernel
theorem dX1_refusalOf_20 : decode cX1_refusalOf 20 = .ok (.bipush (-11), 2) := by decide +kernel
theorem dX1_refusalOf_22 : decode cX1_refusalOf 22 = .ok (.goto 4, 3) := by decide +kernel
theorem dX1_refusalOf_25 : decode cX1_refusalOf 25 = .ok (.iconst 0, 1) := by decide +kernel
theorem dX1_refusalOf_26 : decode cX1_refusalOf 26 = .ok (.ireturn, 1) := by decide +kernel
theorem dX1_refusalOf__0 : decode cX1_refusalOf_ 0 = .ok (.aload_n 0, 1) := by decide +kernel
theorem dX1_refusalOf__1 : decode cX1_refusalOf_ 1 = .ok (.iload_n 1, 1) := by decide +kernel
theorem dX1_refusalOf__2 : decode cX1_refusalOf_ 2 = .ok (.invokevirtual 20, 3) := by decide +kernel
theorem dX1_refusalOf__5 : decode cX1_refusalOf_ 5 = .ok (.istore_n 3, 1) := by decide +kernel
theorem dX1_refusalOf__6 : decode cX1_refusalOf_ 6 = .ok (.iload_n 3, 1) := by decide +kernel
theorem dX1_refusalOf__7 : decode cX1_refusalOf_ 7 = .ok (.ifCond .eq 5, 3) := by decide +kernel
theorem dX1_refusalOf__10 : decode cX1_refusalOf_ 10 = .ok (.iload_n 3, 1) := by decide +kernel
theorem dX1_refusalOf__11 : decode cX1_refusalOf_ 11 = .ok (.ireturn, 1) := by decide +kernel
theorem dX1_refusalOf__12 : decode cX1_refusalOf_ 12 = .ok (.aload_n 0, 1) := by decide +kernel
theorem dX1_refusalOf__13 : decode cX1_refusalOf_ 13 = .ok (.iload_n 1, 1) := by decide +kernel
theorem dX1_refusalOf__14 : decode cX1_refusalOf_ 14 = .ok (.iload_n 2, 1) := by decide +kernel
theorem dX1_refusalOf__15 : decode cX1_refusalOf_ 15 = .ok (.invokevirtual 24, 3) := by decide +kernel
theorem dX1_refusalOf__18 : decode cX1_refusalOf_ 18 = .ok (.ifCond .eq 7, 3) := by decide +kernel
theorem dX1_refusalOf__21 : decode cX1_refusalOf_ 21 = .ok (.iconst 0, 1) := by decide +kernel
theorem dX1_refusalOf__22 : decode cX1_refusalOf_ 22 = .ok (.goto 5, 3) := by decide +kernel
theorem dX1_refusalOf__25 : decode cX1_refusalOf_ 25 = .ok (.bipush (-13), 2) := by decide +kernel
theorem dX1_refusalOf__27 : decode cX1_refusalOf_ 27 = .ok (.ireturn, 1) := by decide +kernel
theorem dX1_hasPlace_0 : decode cX1_hasPlace 0 = .ok (.iload_n 2, 1) := by decide +kernel
theorem dX1_hasPlace_1 : decode cX1_hasPlace 1 = .ok (.ifCond .lt 17, 3) := by decide +kernel
theorem dX1_hasPlace_4 : decode cX1_hasPlace 4 = .ok (.iload_n 2, 1) := by decide +kernel
theorem dX1_hasPlace_5 : decode cX1_hasPlace 5 = .ok (.aload_n 0, 1) := by decide +kernel
theorem dX1_hasPlace_6 : decode cX1_hasPlace 6 = .ok (.getfield 16, 3) := by decide +kernel
theorem dX1_hasPlace_9 : decode cX1_hasPlace 9 = .ok (.iload_n 1, 1) := by decide +kernel
theorem dX1_hasPlace_10 : decode cX1_hasPlace 10 = .ok (.iaload, 1) := by decide +kernel
theorem dX1_hasPlace_11 : decode cX1_hasPlace 11 = .ok (.if_icmp .ge 7, 3) := by decide +kernel
theorem dX1_hasPlace_14 : decode cX1_hasPlace 14 = .ok (.iconst 1, 1) := by decide +kernel
theorem dX1_hasPlace_15 : decode cX1_hasPlace 15 = .ok (.goto 4, 3) := by decide +kernel
theorem dX1_hasPlace_18 : decode cX1_hasPlace 18 = .ok (.iconst 0, 1) := by decide +kernel
theorem dX1_hasPlace_19 : decode cX1_hasPlace 19 = .ok (.ireturn, 1) := by decide +kernel
theorem dX2_init_0 : decode cX2_init 0 = .ok (.aload_n 0, 1) := by decide +kernel
theorem dX2_init_1 : decode cX2_init 1 = .ok (.invokespecial 3, 3) := by decide +kernel
theorem dX2_init_4 : decode cX2_init 4 = .ok (.aload_n 0, 1) := by decide +kernel
theorem dX2_init_5 : decode cX2_init 5 = .ok (.iconst 0, 1) := by decide +kernel
theorem dX2_init_6 : decode cX2_init 6 = .ok (.putfield 9, 3) := by decide +kernel
theorem dX2_init_9 : decode cX2_init 9 = .ok (.aload_n 0, 1) := by decide +kernel
theorem dX2_init_10 : decode cX2_init 10 = .ok (.bipush 6, 2) := by decide +kernel
theorem dX2_init_12 : decode cX2_init 12 = .ok (.newarray .int, 2) := by decide +kernel
theorem dX2_init_14 : decode cX2_init 14 = .ok (.putfield 15, 3) := by decide +kernel
theorem dX2_init_17 : decode cX2_init 17 = .ok (.return_, 1) := by decide +kernel
theorem dX2_begin_0 : decode cX2_begin 0 = .ok (.aload_n 0, 1) := by decide +kernel
theorem dX2_begin_1 : decode cX2_begin 1 = .ok (.iload_n 2, 1) := by decide +kernel
theorem dX2_begin_2 : decode cX2_begin 2 = .ok (.putfield 9, 3) := by decide +kernel
theorem dX2_begin_5 : decode cX2_begin 5 = .ok (.aload_n 1, 1) := by decide +kernel
theorem dX2_begin_6 : decode cX2_begin 6 = .ok (.aload_n 0, 1) := by decide +kernel
theorem dX2_begin_7 : decode cX2_begin 7 = .ok (.getfield 15, 3) := by decide +kernel
theorem dX2_begin_10 : decode cX2_begin 10 = .ok (.invokevirtual 19, 3) := by decide +kernel
theorem dX2_begin_13 : decode cX2_begin 13 = .ok (.return_, 1) := by decide +kernel
theorem dX2_walk_0 : decode cX2_walk 0 = .ok (.iload_n 2, 1) := by decide +kernel
theorem dX2_walk_1 : decode cX2_walk 1 = .ok (.istore 4, 2) := by decide +kernel
theorem dX2_walk_3 : decode cX2_walk 3 = .ok (.iconst 0, 1) := by decide +kernel
theorem dX2_walk_4 : decode cX2_walk 4 = .ok (.istore 5, 2) := by decide +kernel
theorem dX2_walk_6 : decode cX2_walk 6 = .ok (.iconst 0, 1) := by decide +kernel
theorem dX2_walk_7 : decode cX2_walk 7 = .ok (.istore 6, 2) := by decide +kernel
theorem dX2_walk_9 : decode cX2_walk 9 = .ok (.iload 6, 2) := by decide +kernel
theorem dX2_walk_11 : decode cX2_walk 11 = .ok (.bipush 60, 2) := by decide +kernel
theorem dX2_walk_13 : decode cX2_walk 13 = .ok (.if_icmp .ge 70, 3) := by decide +kernel
theorem dX2_walk_16 : decode cX2_walk 16 = .ok (.aload_n 0, 1) := by decide +kernel
theorem dX2_walk_17 : decode cX2_walk 17 = .ok (.getfield 15, 3) := by decide +kernel
theorem dX2_walk_20 : decode cX2_walk 20 = .ok (.iload 4, 2) := by decide +kernel
theorem dX2_walk_22 : decode cX2_walk 22 = .ok (.iaload, 1) := by decide +kernel
theorem dX2_walk_23 : decode cX2_walk 23 = .ok (.ifCond .gt 5, 3) := by decide +kernel
theorem dX2_walk_26 : decode cX2_walk 26 = .ok (.iconst (-1), 1) := by decide +kernel
theorem dX2_walk_27 : decode cX2_walk 27 = .ok (.ireturn, 1) := by decide +kernel
theorem dX2_walk_28 : decode cX2_walk 28 = .ok (.aload_n 1, 1) := by decide +kernel
theorem dX2_walk_29 : decode cX2_walk 29 = .ok (.iload 4, 2) := by decide +kernel
theorem dX2_walk_31 : decode cX2_walk 31 = .ok (.aload_n 0, 1) := by decide +kernel
theorem dX2_walk_32 : decode cX2_walk 32 = .ok (.aload_n 0, 1) := by decide +kernel
theorem dX2_walk_33 : decode cX2_walk 33 = .ok (.getfield 15, 3) := by decide +kernel
theorem dX2_walk_36 : decode cX2_walk 36 = .ok (.iload 4, 2) := by decide +kernel
theorem dX2_walk_38 : decode cX2_walk 38 = .ok (.iaload, 1) := by decide +kernel
theorem dX2_walk_39 : decode cX2_walk 39 = .ok (.invokevirtual 25, 3) := by decide +kernel
theorem dX2_walk_42 : decode cX2_walk 42 = .ok (.invokestatic 29, 3) := by decide +kernel
theorem dX2_walk_45 : decode cX2_walk 45 = .ok (.istore 7, 2) := by decide +kernel
theorem dX2_walk_47 : decode cX2_walk 47 = .ok (.iload 5, 2) := by decide +kernel
theorem dX2_walk_49 : decode cX2_walk 49 = .ok (.aload_n 1, 1) := by decide +kernel
theorem dX2_walk_50 : decode cX2_walk 50 = .ok (.iload 7, 2) := by decide +kernel
theorem dX2_walk_52 : decode cX2_walk 52 = .ok (.invokevirtual 33, 3) := by decide +kernel
theorem dX2_walk_55 : decode cX2_walk 55 = .ok (.iadd, 1) := by decide +kernel
theorem dX2_walk_56 : decode cX2_walk 56 = .ok (.istore 5, 2) := by decide +kernel
theorem dX2_walk_58 : decode cX2_walk 58 = .ok (.aload_n 1, 1) := by decide +kernel
theorem dX2_walk_59 : decode cX2_walk 59 = .ok (.iload 7, 2) := by decide +kernel
theorem dX2_walk_61 : decode cX2_walk 61 = .ok (.iload 4, 2) := by decide +kernel
theorem dX2_walk_63 : decode cX2_walk 63 = .ok (.invokevirtual 36, 3) := by decide +kernel
theorem dX2_walk_66 : decode cX2_walk 66 = .ok (.istore 4, 2) := by decide +kernel
theorem dX2_walk_68 : decode cX2_walk 68 = .ok (.iload 4, 2) := by decide +kernel
theorem dX2_walk_70 : decode cX2_walk 70 = .ok (.iload_n 3, 1) := by decide +kernel
theorem dX2_walk_71 : decode cX2_walk 71 = .ok (.if_icmp .ne 6, 3) := by decide +kernel
theorem dX2_walk_74 : decode cX2_walk 74 = .ok (.iload 5, 2) := by decide +kernel
theorem dX2_walk_76 : decode cX2_walk 76 = .ok (.ireturn, 1) := by decide +kernel
theorem dX2_walk_77 : decode cX2_walk 77 = .ok (.iinc 6 1, 3) := by decide +kernel
theorem dX2_walk_80 : decode cX2_walk 80 = .ok (.goto (-71), 3) := by decide +kernel
theorem dX2_walk_83 : decode cX2_walk 83 = .ok (.iconst (-1), 1) := by decide +kernel
theorem dX2_walk_84 : decode cX2_walk 84 = .ok (.ireturn, 1) := by decide +kernel
theorem dX2_draw_0 : decode cX2_draw 0 = .ok (.aload_n 0, 1) := by decide +kernel
theorem dX2_draw_1 : decode cX2_draw 1 = .ok (.aload_n 0, 1) := by decide +kernel
theorem dX2_draw_2 : decode cX2_draw 2 = .ok (.getfield 9, 3) := by decide +kernel
theorem dX2_draw_5 : decode cX2_draw 5 = .ok (.ldc 40, 2) := by decide +kernel
theorem dX2_draw_7 : decode cX2_draw 7 = .ok (.imul, 1) := by decide +kernel
theorem dX2_draw_8 : decode cX2_draw 8 = .ok (.ldc 41, 2) := by decide +kernel
theorem dX2_draw_10 : decode cX2_draw 10 = .ok (.iadd, 1) := by decide +kernel
theorem dX2_draw_11 : decode cX2_draw 11 = .ok (.putfield 9, 3) := by decide +kernel
theorem dX2_draw_14 : decode cX2_draw 14 = .ok (.aload_n 0, 1) := by decide +kernel
theorem dX2_draw_15 : decode cX2_draw 15 = .ok (.getfield 9, 3) := by decide +kernel
theorem dX2_draw_18 : decode cX2_draw 18 = .ok (.ldc 42, 2) := by decide +kernel
theorem dX2_draw_20 : decode cX2_draw 20 = .ok (.iand, 1) := by decide +kernel
theorem dX2_draw_21 : decode cX2_draw 21 = .ok (.sipush 256, 3) := by decide +kernel
theorem dX2_draw_24 : decode cX2_draw 24 = .ok (.idiv, 1) := by decide +kernel
theorem dX2_draw_25 : decode cX2_draw 25 = .ok (.istore_n 2, 1) := by decide +kernel
theorem dX2_draw_26 : decode cX2_draw 26 = .ok (.iload_n 1, 1) := by decide +kernel
theorem dX2_draw_27 : decode cX2_draw 27 = .ok (.ifCond .gt 7, 3) := by decide +kernel
theorem dX2_draw_30 : decode cX2_draw 30 = .ok (.iconst 0, 1) := by decide +kernel
theorem dX2_draw_31 : decode cX2_draw 31 = .ok (.goto 6, 3) := by decide +kernel
theorem dX2_draw_34 : decode cX2_draw 34 = .ok (.iload_n 2, 1) := by decide +kernel
theorem dX2_draw_35 : decode cX2_draw 35 = .ok (.iload_n 1, 1) := by decide +kernel
theorem dX2_draw_36 : decode cX2_draw 36 = .ok (.irem, 1) := by decide +kernel
theorem dX2_draw_37 : decode cX2_draw 37 = .ok (.ireturn, 1) := by decide +kernel
theorem dX2_wayBy_0 : decode cX2_wayBy 0 = .ok (.iconst 0, 1) := by decide +kernel
theorem dX2_wayBy_1 : decode cX2_wayBy 1 = .ok (.istore_n 3, 1) := by decide +kernel
theorem dX2_wayBy_2 : decode cX2_wayBy 2 = .ok (.iconst 0, 1) := by decide +kernel
theorem dX2_wayBy_3 : decode cX2_wayBy 3 = .ok (.istore 4, 2) := by decide +kernel
theorem dX2_wayBy_5 : decode cX2_wayBy 5 = .ok (.iload 4, 2) := by decide +kernel
theorem dX2_wayBy_7 : decode cX2_wayBy 7 = .ok (.aload_n 0, 1) := by decide +kernel
theorem dX2_wayBy_8 : decode cX2_wayBy 8 = .ok (.getfield 43, 3) := by decide +kernel
theorem dX2_wayBy_11 : decode cX2_wayBy 11 = .ok (.if_icmp .ge 36, 3) := by decide +kernel
theorem dX2_wayBy_14 : decode cX2_wayBy 14 = .ok (.aload_n 0, 1) := by decide +kernel
theorem dX2_wayBy_15 : decode cX2_wayBy 15 = .ok (.iload 4, 2) := by decide +kernel
theorem dX2_wayBy_17 : decode cX2_wayBy 17 = .ok (.iload_n 1, 1) := by decide +kernel
theorem dX2_wayBy_18 : decode cX2_wayBy 18 = .ok (.invokevirtual 46, 3) := by decide +kernel
theorem dX2_wayBy_21 : decode cX2_wayBy 21 = .ok (.ifCond .eq 20, 3) := by decide +kernel
theorem dX2_wayBy_24 : decode cX2_wayBy 24 = .ok (.iload_n 3, 1) := by decide +kernel
theorem dX2_wayBy_25 : decode cX2_wayBy 25 = .ok (.aload_n 0, 1) := by decide +kernel
theorem dX2_wayBy_26 : decode cX2_wayBy 26 = .ok (.iload 4, 2) := by decide +kernel
theorem dX2_wayBy_28 : decode cX2_wayBy 28 = .ok (.invokevirtual 50, 3) := by decide +kernel
theorem dX2_wayBy_31 : decode cX2_wayBy 31 = .ok (.iadd, 1) := by decide +kernel
theorem dX2_wayBy_32 : decode cX2_wayBy 32 = .ok (.istore_n 3, 1) := by decide +kernel
theorem dX2_wayBy_33 : decode cX2_wayBy 33 = .ok (.iload_n 2, 1) := by decide +kernel
theorem dX2_wayBy_34 : decode cX2_wayBy 34 = .ok (.iload_n 3, 1) := by decide +kernel
theorem dX2_wayBy_35 : decode cX2_wayBy 35 = .ok (.if_icmp .ge 6, 3) := by decide +kernel
theorem dX2_wayBy_38 : decode cX2_wayBy 38 = .ok (.iload 4, 2) := by decide +kernel
theorem dX2_wayBy_40 : decode cX2_wayBy 40 = .ok (.ireturn, 1) := by decide +kernel
theorem dX2_wayBy_41 : decode cX2_wayBy 41 = .ok (.iinc 4 1, 3) := by decide +kernel
theorem dX2_wayBy_44 : decode cX2_wayBy 44 = .ok (.goto (-39), 3) := by decide +kernel
theorem dX2_wayBy_47 : decode cX2_wayBy 47 = .ok (.iconst 0, 1) := by decide +kernel
theorem dX2_wayBy_48 : decode cX2_wayBy 48 = .ok (.ireturn, 1) := by decide +kernel
theorem dX3_init_0 : decode cX3_init 0 = .ok (.aload_n 0, 1) := by decide +kernel
theorem dX3_init_1 : decode cX3_init 1 = .ok (.invokespecial 3, 3) := by decide +kernel
theorem dX3_init_4 : decode cX3_init 4 = .ok (.aload_n 0, 1) := by decide +kernel
theorem dX3_init_5 : decode cX3_init 5 = .ok (.iconst 4, 1) := by decide +kernel
theorem dX3_init_6 : decode cX3_init 6 = .ok (.putfield 9, 3) := by decide +kernel
theorem dX3_init_9 : decode cX3_init 9 = .ok (.aload_n 0, 1) := by decide +kernel
theorem dX3_init_10 : decode cX3_init 10 = .ok (.iconst 0, 1) := by decide +kernel
theorem dX3_init_11 : decode cX3_init 11 = .ok (.putfield 15, 3) := by decide +kernel
theorem dX3_init_14 : decode cX3_init 14 = .ok (.aload_n 0, 1) := by decide +kernel
theorem dX3_init_15 : decode cX3_init 15 = .ok (.bipush 11, 2) := by decide +kernel
theorem dX3_init_17 : decode cX3_init 17 = .ok (.newarray .int, 2) := by decide +kernel
theorem dX3_init_19 : decode cX3_init 19 = .ok (.putfield 18, 3) := by decide +kernel
theorem dX3_init_22 : decode cX3_init 22 = .ok (.aload_n 0, 1) := by decide +kernel
theorem dX3_init_23 : decode cX3_init 23 = .ok (.bipush 11, 2) := by decide +kernel
theorem dX3_init_25 : decode cX3_init 25 = .ok (.newarray .int, 2) := by decide +kernel
theorem dX3_init_27 : decode cX3_init 27 = .ok (.putfield 22, 3) := by decide +kernel
theorem dX3_init_30 : decode cX3_init 30 = .ok (.aload_n 0, 1) := by decide +kernel
theorem dX3_init_31 : decode cX3_init 31 = .ok (.bipush 11, 2) := by decide +kernel
theorem dX3_init_33 : decode cX3_init 33 = .ok (.newarray .int, 2) := by decide +kernel
theorem dX3_init_35 : decode cX3_init 35 = .ok (.putfield 25, 3) := by decide +kernel
theorem dX3_init_38 : decode cX3_init 38 = .ok (.aload_n 0, 1) := by decide +kernel
theorem dX3_init_39 : decode cX3_init 39 = .ok (.bipush 11, 2) := by decide +kernel
theorem dX3_init_41 : decode cX3_init 41 = .ok (.newarray .int, 2) := by decide +kernel
theorem dX3_init_43 : decode cX3_init 43 = .ok (.putfield 28, 3) := by decide +kernel
theorem dX3_init_46 : decode cX3_init 46 = .ok (.aload_n 0, 1) := by decide +kernel
theorem dX3_init_47 : decode cX3_init 47 = .ok (.bipush 11, 2) := by decide +kernel
theorem dX3_init_49 : decode cX3_init 49 = .ok (.newarray .int, 2) := by decide +kernel
theorem dX3_init_51 : decode cX3_init 51 = .ok (.putfield 31, 3) := by decide +kernel
theorem dX3_init_54 : decode cX3_init 54 = .ok (.aload_n 0, 1) := by decide +kernel
theorem dX3_init_55 : decode cX3_init 55 = .ok (.bipush 11, 2) := by decide +kernel
theorem dX3_init_57 : decode cX3_init 57 = .ok (.newarray .int, 2) := by decide +kernel
theorem dX3_init_59 : decode cX3_init 59 = .ok (.putfield 34, 3) := by decide +kernel
theorem dX3_init_62 : decode cX3_init 62 = .ok (.return_, 1) := by decide +kernel
theorem dX3_isPoint_0 : decode cX3_isPoint 0 = .ok (.iload_n 1, 1) := by decide +kernel
theorem dX3_isPoint_1 : decode cX3_isPoint 1 = .ok (.ifCond .lt 15, 3) := by decide +kernel
theorem dX3_isPoint_4 : decode cX3_isPoint 4 = .ok (.iload_n 1, 1) := by decide +kernel
theorem dX3_isPoint_5 : decode cX3_isPoint 5 = .ok (.aload_n 0, 1) := by decide +kernel
theorem dX3_isPoint_6 : decode cX3_isPoint 6 = .ok (.getfield 9, 3) := by decide +kernel
theorem dX3_isPoint_9 : decode cX3_isPoint 9 = .ok (.if_icmp .ge 7, 3) := by decide +kernel
theorem dX3_isPoint_12 : decode cX3_isPoint 12 = .ok (.iconst 1, 1) := by decide +kernel
theorem dX3_isPoint_13 : decode cX3_isPoint 13 = .ok (.goto 4, 3) := by decide +kernel
theorem dX3_isPoint_16 : decode cX3_isPoint 16 = .ok (.iconst 0, 1) := by decide +kernel
theorem dX3_isPoint_17 : decode cX3_isPoint 17 = .ok (.ireturn, 1) := by decide +kernel
theorem dX3_isWay_0 : decode cX3_isWay 0 = .ok (.iload_n 1, 1) := by decide +kernel
theorem dX3_isWay_1 : decode cX3_isWay 1 = .ok (.ifCond .lt 15, 3) := by decide +kernel
theorem dX3_isWay_4 : decode cX3_isWay 4 = .ok (.iload_n 1, 1) := by decide +kernel
theorem dX3_isWay_5 : decode cX3_isWay 5 = .ok (.aload_n 0, 1) := by decide +kernel
theorem dX3_isWay_6 : decode cX3_isWay 6 = .ok (.getfield 15, 3) := by decide +kernel
theorem dX3_isWay_9 : decode cX3_isWay 9 = .ok (.if_icmp .ge 7, 3) := by decide +kernel
theorem dX3_isWay_12 : decode cX3_isWay 12 = .ok (.iconst 1, 1) := by decide +kernel
theorem dX3_isWay_13 : decode cX3_isWay 13 = .ok (.goto 4, 3) := by decide +kernel
theorem dX3_isWay_16 : decode cX3_isWay 16 = .ok (.iconst 0, 1) := by decide +kernel
theorem dX3_isWay_17 : decode cX3_isWay 17 = .ok (.ireturn, 1) := by decide +kernel
theorem dX3_allPoints_0 : decode cX3_allPoints 0 = .ok (.iconst 1, 1) := by decide +kernel
theorem dX3_allPoints_1 : decode cX3_allPoints 1 = .ok (.aload_n 0, 1) := by decide +kernel
theorem dX3_allPoints_2 : decode cX3_allPoints 2 = .ok (.getfield 9, 3) := by decide +kernel
theorem dX3_allPoints_5 : decode cX3_allPoints 5 = .ok (.ishl, 1) := by decide +kernel
theorem dX3_allPoints_6 : decode cX3_allPoints 6 = .ok (.iconst 1, 1) := by decide +kernel
theorem dX3_allPoints_7 : decode cX3_allPoints 7 = .ok (.isub, 1) := by decide +kernel
theorem dX3_allPoints_8 : decode cX3_allPoints 8 = .ok (.ireturn, 1) := by decide +kernel
theorem dX3_allWays_0 : decode cX3_allWays 0 = .ok (.iconst 1, 1) := by decide +kernel
theorem dX3_allWays_1 : decode cX3_allWays 1 = .ok (.aload_n 0, 1) := by decide +kernel
theorem dX3_allWays_2 : decode cX3_allWays 2 = .ok (.getfield 15, 3) := by decide +kernel
theorem dX3_allWays_5 : decode cX3_allWays 5 = .ok (.ishl, 1) := by decide +kernel
theorem dX3_allWays_6 : decode cX3_allWays 6 = .ok (.iconst 1, 1) := by decide +kernel
theorem dX3_allWays_7 : decode cX3_allWays 7 = .ok (.isub, 1) := by decide +kernel
theorem dX3_allWays_8 : decode cX3_allWays 8 = .ok (.ireturn, 1) := by decide +kernel
theorem dX3_weight_0 : decode cX3_weight 0 = .ok (.aload_n 0, 1) := by decide +kernel
theorem dX3_weight_1 : decode cX3_weight 1 = .ok (.getfield 25, 3) := by decide +kernel
theorem dX3_weight_4 : decode cX3_weight 4 = .ok (.iload_n 1, 1) := by decide +kernel
theorem dX3_weight_5 : decode cX3_weight 5 = .ok (.iaload, 1) := by decide +kernel
theorem dX3_weight_6 : decode cX3_weight 6 = .ok (.aload_n 0, 1) := by decide +kernel
theorem dX3_weight_7 : decode cX3_weight 7 = .ok (.getfield 28, 3) := by decide +kernel
theorem dX3_weight_10 : decode cX3_weight 10 = .ok (.iload_n 1, 1) := by decide +kernel
theorem dX3_weight_11 : decode cX3_weight 11 = .ok (.iaload, 1) := by decide +kernel
theorem dX3_weight_12 : decode cX3_weight 12 = .ok (.aload_n 0, 1) := by decide +kernel
theorem dX3_weight_13 : decode cX3_weight 13 = .ok (.getfield 31, 3) := by decide +kernel
theorem dX3_weight_16 : decode cX3_weight 16 = .ok (.iload_n 1, 1) := by decide +kernel
theorem dX3_weight_17 : decode cX3_weight 17 = .ok (.iaload, 1) := by decide +kernel
theorem dX3_weight_18 : decode cX3_weight 18 = .ok (.invokestatic 37, 3) := by decide +kernel
theorem dX3_weight_21 : decode cX3_weight 21 = .ok (.ireturn, 1) := by decide +kernel
theorem dX3_minutes_0 : decode cX3_minutes 0 = .ok (.aload_n 0, 1) := by decide +kernel
theorem dX3_minutes_1 : decode cX3_minutes 1 = .ok (.getfield 25, 3) := by decide +kernel
theorem dX3_minutes_4 : decode cX3_minutes 4 = .ok (.iload_n 1, 1) := by decide +kernel
theorem dX3_minutes_5 : decode cX3_minutes 5 = .ok (.iaload, 1) := by decide +kernel
theorem dX3_minutes_6 : decode cX3_minutes 6 = .ok (.aload_n 0, 1) := by decide +kernel
theorem dX3_minutes_7 : decode cX3_minutes 7 = .ok (.getfield 28, 3) := by decide +kernel
theorem dX3_minutes_10 : decode cX3_minutes 10 = .ok (.iload_n 1, 1) := by decide +kernel
theorem dX3_minutes_11 : decode cX3_minutes 11 = .ok (.iaload, 1) := by decide +kernel
theorem dX3_minutes_12 : decode cX3_minutes 12 = .ok (.aload_n 0, 1) := by decide +kernel
theorem dX3_minutes_13 : decode cX3_minutes 13 = .ok (.getfield 34, 3) := by decide +kernel
theorem dX3_minutes_16 : decode cX3_minutes 16 = .ok (.iload_n 1, 1) := by decide +kernel
theorem dX3_minutes_17 : decode cX3_minutes 17 = .ok (.iaload, 1) := by decide +kernel
theorem dX3_minutes_18 : decode cX3_minutes 18 = .ok (.invokestatic 41, 3) := by decide +kernel
theorem dX3_minutes_21 : decode cX3_minutes 21 = .ok (.ireturn, 1) := by decide +kernel
theorem dX3_touches_0 : decode cX3_touches 0 = .ok (.aload_n 0, 1) := by decide +kernel
theorem dX3_touches_1 : decode cX3_touches 1 = .ok (.getfield 18, 3) := by decide +kernel
theorem dX3_touches_4 : decode cX3_touches 4 = .ok (.iload_n 1, 1) := by decide +kernel
theorem dX3_touches_5 : decode cX3_touches 5 = .ok (.iaload, 1) := by decide +kernel
theorem dX3_touches_6 : decode cX3_touches 6 = .ok (.iload_n 2, 1) := by decide +kernel
theorem dX3_touches_7 : decode cX3_touches 7 = .ok (.if_icmp .eq 13, 3) := by decide +kernel
theorem dX3_touches_10 : decode cX3_touches 10 = .ok (.aload_n 0, 1) := by decide +kernel
theorem dX3_touches_11 : decode cX3_touches 11 = .ok (.getfield 22, 3) := by decide +kernel
theorem dX3_touches_14 : decode cX3_touches 14 = .ok (.iload_n 1, 1) := by decide +kernel
theorem dX3_touches_15 : decode cX3_touches 15 = .ok (.iaload, 1) := by decide +kernel
theorem dX3_touches_16 : decode cX3_touches 16 = .ok (.iload_n 2, 1) := by decide +kernel
theorem dX3_touches_17 : decode cX3_touches 17 = .ok (.if_icmp .ne 7, 3) := by decide +kernel
theorem dX3_touches_20 : decode cX3_touches 20 = .ok (.iconst 1, 1) := by decide +kernel
theorem dX3_touches_21 : decode cX3_touches 21 = .ok (.goto 4, 3) := by decide +kernel
theorem dX3_touches_24 : decode cX3_touches 24 = .ok (.iconst 0, 1) := by decide +kernel
theorem dX3_touches_25 : decode cX3_touches 25 = .ok (.ireturn, 1) := by decide +kernel
theorem dX3_otherEnd_0 : decode cX3_otherEnd 0 = .ok (.aload_n 0, 1) := by decide +kernel
theorem dX3_otherEnd_1 : decode cX3_otherEnd 1 = .ok (.getfield 18, 3) := by decide +kernel
theorem dX3_otherEnd_4 : decode cX3_otherEnd 4 = .ok (.iload_n 1, 1) := by decide +kernel
theorem dX3_otherEnd_5 : decode cX3_otherEnd 5 = .ok (.iaload, 1) := by decide +kernel
theorem dX3_otherEnd_6 : decode cX3_otherEnd 6 = .ok (.iload_n 2, 1) := by decide +kernel
theorem dX3_otherEnd_7 : decode cX3_otherEnd 7 = .ok (.if_icmp .ne 12, 3) := by decide +kernel
theorem dX3_otherEnd_10 : decode cX3_otherEnd 10 = .ok (.aload_n 0, 1) := by decide +kernel
theorem dX3_otherEnd_11 : decode cX3_otherEnd 11 = .ok (.getfield 22, 3) := by decide +kernel
theorem dX3_otherEnd_14 : decode cX3_otherEnd 14 = .ok (.iload_n 1, 1) := by decide +kernel
theorem dX3_otherEnd_15 : decode cX3_otherEnd 15 = .ok (.iaload, 1) := by decide +kernel
theorem dX3_otherEnd_16 : decode cX3_otherEnd 16 = .ok (.goto 9, 3) := by decide +kernel
theorem dX3_otherEnd_19 : decode cX3_otherEnd 19 = .ok (.aload_n 0, 1) := by decide +kernel
theorem dX3_otherEnd_20 : decode cX3_otherEnd 20 = .ok (.getfield 18, 3) := by decide +kernel
theorem dX3_otherEnd_23 : decode cX3_otherEnd 23 = .ok (.iload_n 1, 1) := by decide +kernel
theorem dX3_otherEnd_24 : decode cX3_otherEnd 24 = .ok (.iaload, 1) := by decide +kernel
theorem dX3_otherEnd_25 : decode cX3_otherEnd 25 = .ok (.ireturn, 1) := by decide +kernel
theorem dX3_weightsAt_0 : decode cX3_weightsAt 0 = .ok (.iconst 0, 1) := by decide +kernel
theorem dX3_weightsAt_1 : decode cX3_weightsAt 1 = .ok (.istore_n 2, 1) := by decide +kernel
theorem dX3_weightsAt_2 : decode cX3_weightsAt 2 = .ok (.iconst 0, 1) := by decide +kernel
theorem dX3_weightsAt_3 : decode cX3_weightsAt 3 = .ok (.istore_n 3, 1) := by decide +kernel
theorem dX3_weightsAt_4 : decode cX3_weightsAt 4 = .ok (.iload_n 3, 1) := by decide +kernel
theorem dX3_weightsAt_5 : decode cX3_weightsAt 5 = .ok (.aload_n 0, 1) := by decide +kernel
theorem dX3_weightsAt_6 : decode cX3_weightsAt 6 = .ok (.getfield 15, 3) := by decide +kernel
theorem dX3_weightsAt_9 : decode cX3_weightsAt 9 = .ok (.if_icmp .ge 26, 3) := by decide +kernel
theorem dX3_weightsAt_12 : decode cX3_weightsAt 12 = .ok (.aload_n 0, 1) := by decide +kernel
theorem dX3_weightsAt_13 : decode cX3_weightsAt 13 = .ok (.iload_n 3, 1) := by decide +kernel
theorem dX3_weightsAt_14 : decode cX3_weightsAt 14 = .ok (.iload_n 1, 1) := by decide +kernel
theorem dX3_weightsAt_15 : decode cX3_weightsAt 15 = .ok (.invokevirtual 44, 3) := by decide +kernel
theorem dX3_weightsAt_18 : decode cX3_weightsAt 18 = .ok (.ifCond .eq 11, 3) := by decide +kernel
theorem dX3_weightsAt_21 : decode cX3_weightsAt 21 = .ok (.iload_n 2, 1) := by decide +kernel
theorem dX3_weightsAt_22 : decode cX3_weightsAt 22 = .ok (.aload_n 0, 1) := by decide +kernel
theorem dX3_weightsAt_23 : decode cX3_weightsAt 23 = .ok (.iload_n 3, 1) := by decide +kernel
theorem dX3_weightsAt_24 : decode cX3_weightsAt 24 = .ok (.invokevirtual 48, 3) := by decide +kernel
theorem dX3_weightsAt_27 : decode cX3_weightsAt 27 = .ok (.iadd, 1) := by decide +kernel
theorem dX3_weightsAt_28 : decode cX3_weightsAt 28 = .ok (.istore_n 2, 1) := by decide +kernel
theorem dX3_weightsAt_29 : decode cX3_weightsAt 29 = .ok (.iinc 3 1, 3) := by decide +kernel
theorem dX3_weightsAt_32 : decode cX3_weightsAt 32 = .ok (.goto (-28), 3) := by decide +kernel
theorem dX3_weightsAt_35 : decode cX3_weightsAt 35 = .ok (.iload_n 2, 1) := by decide +kernel
theorem dX3_weightsAt_36 : decode cX3_weightsAt 36 = .ok (.ireturn, 1) := by decide +kernel
theorem dX3_layWeights_0 : decode cX3_layWeights 0 = .ok (.iconst 0, 1) := by decide +kernel
theorem dX3_layWeights_1 : decode cX3_layWeights 1 = .ok (.istore_n 2, 1) := by decide +kernel
theorem dX3_layWeights_2 : decode cX3_layWeights 2 = .ok (.iload_n 2, 1) := by decide +kernel
theorem dX3_layWeights_3 : decode cX3_layWeights 3 = .ok (.aload_n 0, 1) := by decide +kernel
theorem dX3_layWeights_4 : decode cX3_layWeights 4 = .ok (.getfield 9, 3) := by decide +kernel
theorem dX3_layWeights_7 : decode cX3_layWeights 7 = .ok (.if_icmp .ge 23, 3) := by decide +kernel
theorem dX3_layWeights_10 : decode cX3_layWeights 10 = .ok (.iload_n 2, 1) := by decide +kernel
theorem dX3_layWeights_11 : decode cX3_layWeights 11 = .ok (.aload_n 1, 1) := by decide +kernel
theorem dX3_layWeights_12 : decode cX3_layWeights 12 = .ok (.arraylength, 1) := by decide +kernel
theorem dX3_layWeights_13 : decode cX3_layWeights 13 = .ok (.if_icmp .ge 17, 3) := by decide +kernel
theorem dX3_layWeights_16 : decode cX3_layWeights 16 = .ok (.aload_n 1, 1) := by decide +kernel
theorem dX3_layWeights_17 : decode cX3_layWeights 17 = .ok (.iload_n 2, 1) := by decide +kernel
theorem dX3_layWeights_18 : decode cX3_layWeights 18 = .ok (.aload_n 0, 1) := by decide +kernel
theorem dX3_layWeights_19 : decode cX3_layWeights 19 = .ok (.iload_n 2, 1) := by decide +kernel
theorem dX3_layWeights_20 : decode cX3_layWeights 20 = .ok (.invokevirtual 52, 3) := by decide +kernel
theorem dX3_layWeights_23 : decode cX3_layWeights 23 = .ok (.iastore, 1) := by decide +kernel
theorem dX3_layWeights_24 : decode cX3_layWeights 24 = .ok (.iinc 2 1, 3) := by decide +kernel
theorem dX3_layWeights_27 : decode cX3_layWeights 27 = .ok (.goto (-25), 3) := by decide +kernel
theorem dX3_layWeights_30 : decode cX3_layWeights 30 = .ok (.return_, 1) := by decide +kernel
theorem dX3_weightsOfAll_0 : decode cX3_weightsOfAll 0 = .ok (.iconst 0, 1) := by decide +kernel
theorem dX3_weightsOfAll_1 : decode cX3_weightsOfAll 1 = .ok (.istore_n 1, 1) := by decide +kernel
theorem dX3_weightsOfAll_2 : decode cX3_weightsOfAll 2 = .ok (.iconst 0, 1) := by decide +kernel
theorem dX3_weightsOfAll_3 : decode cX3_weightsOfAll 3 = .ok (.istore_n 2, 1) := by decide +kernel
theorem dX3_weightsOfAll_4 : decode cX3_weightsOfAll 4 = .ok (.iload_n 2, 1) := by decide +kernel
theorem dX3_weightsOfAll_5 : decode cX3_weightsOfAll 5 = .ok (.aload_n 0, 1) := by decide +kernel
theorem dX3_weightsOfAll_6 : decode cX3_weightsOfAll 6 = .ok (.getfield 15, 3) := by decide +kernel
theorem dX3_weightsOfAll_9 : decode cX3_weightsOfAll 9 = .ok (.if_icmp .ge 17, 3) := by decide +kernel
theorem dX3_weightsOfAll_12 : decode cX3_weightsOfAll 12 = .ok (.iload_n 1, 1) := by decide +kernel
theorem dX3_weightsOfAll_13 : decode cX3_weightsOfAll 13 = .ok (.aload_n 0, 1) := by decide +kernel
theorem dX3_weightsOfAll_14 : decode cX3_weightsOfAll 14 = .ok (.iload_n 2, 1) := by decide +kernel
theorem dX3_weightsOfAll_15 : decode cX3_weightsOfAll 15 = .ok (.invokevirtual 48, 3) := by decide +kernel
theorem dX3_weightsOfAll_18 : decode cX3_weightsOfAll 18 = .ok (.iadd, 1) := by decide +kernel
theorem dX3_weightsOfAll_19 : decode cX3_weightsOfAll 19 = .ok (.istore_n 1, 1) := by decide +kernel
theorem dX3_weightsOfAll_20 : decode cX3_weightsOfAll 20 = .ok (.iinc 2 1, 3) := by decide +kernel
theorem dX3_weightsOfAll_23 : decode cX3_weightsOfAll 23 = .ok (.goto (-19), 3) := by decide +kernel
theorem dX3_weightsOfAll_26 : decode cX3_weightsOfAll 26 = .ok (.iload_n 1, 1) := by decide +kernel
theorem dX3_weightsOfAll_27 : decode cX3_weightsOfAll 27 = .ok (.ireturn, 1) := by decide +kernel
theorem dX3_reached_0 : decode cX3_reached 0 = .ok (.iload_n 1, 1) := by decide +kernel
theorem dX3_reached_1 : decode cX3_reached 1 = .ok (.istore_n 3, 1) := by decide +kernel
theorem dX3_reached_2 : decode cX3_reached 2 = .ok (.iconst 0, 1) := by decide +kernel
theorem dX3_reached_3 : decode cX3_reached 3 = .ok (.istore 4, 2) := by decide +kernel
theorem dX3_reached_5 : decode cX3_reached 5 = .ok (.iconst 1, 1) := by decide +kernel
theorem dX3_reached_6 : decode cX3_reached 6 = .ok (.istore 5, 2) := by decide +kernel
theorem dX3_reached_8 : decode cX3_reached 8 = .ok (.iload 5, 2) := by decide +kernel
theorem dX3_reached_10 : decode cX3_reached 10 = .ok (.aload_n 0, 1) := by decide +kernel
theorem dX3_reached_11 : decode cX3_reached 11 = .ok (.getfield 9, 3) := by decide +kernel
theorem dX3_reached_14 : decode cX3_reached 14 = .ok (.if_icmp .ge 78, 3) := by decide +kernel
theorem dX3_reached_17 : decode cX3_reached 17 = .ok (.iload_n 3, 1) := by decide +kernel
theorem dX3_reached_18 : decode cX3_reached 18 = .ok (.iload 4, 2) := by decide +kernel
theorem dX3_reached_20 : decode cX3_reached 20 = .ok (.if_icmp .eq 72, 3) := by decide +kernel
theorem dX3_reached_23 : decode cX3_reached 23 = .ok (.iload_n 3, 1) := by decide +kernel
theorem dX3_reached_24 : decode cX3_reached 24 = .ok (.istore 4, 2) := by decide +kernel
theorem dX3_reached_26 : decode cX3_reached 26 = .ok (.iconst 0, 1) := by decide +kernel
theorem dX3_reached_27 : decode cX3_reached 27 = .ok (.istore 6, 2) := by decide +kernel
theorem dX3_reached_29 : decode cX3_reached 29 = .ok (.iload 6, 2) := by decide +kernel
theorem dX3_reached_31 : decode cX3_reached 31 = .ok (.aload_n 0, 1) := by decide +kernel
theorem dX3_reached_32 : decode cX3_reached 32 = .ok (.getfield 15, 3) := by decide +kernel
theorem dX3_reached_35 : decode cX3_reached 35 = .ok (.if_icmp .ge 51, 3) := by decide +kernel
theorem dX3_reached_38 : decode cX3_reached 38 = .ok (.iconst 1, 1) := by decide +kernel
theorem dX3_reached_39 : decode cX3_reached 39 = .ok (.aload_n 0, 1) := by decide +kernel
theorem dX3_reached_40 : decode cX3_reached 40 = .ok (.getfield 18, 3) := by decide +kernel
theorem dX3_reached_43 : decode cX3_reached 43 = .ok (.iload 6, 2) := by decide +kernel
theorem dX3_reached_45 : decode cX3_reached 45 = .ok (.iaload, 1) := by decide +kernel
theorem dX3_reached_46 : decode cX3_reached 46 = .ok (.ishl, 1) := by decide +kernel
theorem dX3_reached_47 : decode cX3_reached 47 = .ok (.iconst 1, 1) := by decide +kernel
theorem dX3_reached_48 : decode cX3_reached 48 = .ok (.aload_n 0, 1) := by decide +kernel
theorem dX3_reached_49 : decode cX3_reached 49 = .ok (.getfield 22, 3) := by decide +kernel
theorem dX3_reached_52 : decode cX3_reached 52 = .ok (.iload 6, 2) := by decide +kernel
theorem dX3_reached_54 : decode cX3_reached 54 = .ok (.iaload, 1) := by decide +kernel
theorem dX3_reached_55 : decode cX3_reached 55 = .ok (.ishl, 1) := by decide +kernel
theorem dX3_reached_56 : decode cX3_reached 56 = .ok (.ior, 1) := by decide +kernel
theorem dX3_reached_57 : decode cX3_reached 57 = .ok (.istore 7, 2) := by decide +kernel
theorem dX3_reached_59 : decode cX3_reached 59 = .ok (.iload_n 2, 1) := by decide +kernel
theorem dX3_reached_60 : decode cX3_reached 60 = .ok (.iload 6, 2) := by decide +kernel
theorem dX3_reached_62 : decode cX3_reached 62 = .ok (.invokestatic 55, 3) := by decide +kernel
theorem dX3_reached_65 : decode cX3_reached 65 = .ok (.ifCond .eq 15, 3) := by decide +kernel
theorem dX3_reached_68 : decode cX3_reached 68 = .ok (.iload_n 3, 1) := by decide +kernel
theorem dX3_reached_69 : decode cX3_reached 69 = .ok (.iload 7, 2) := by decide +kernel
theorem dX3_reached_71 : decode cX3_reached 71 = .ok (.iand, 1) := by decide +kernel
theorem dX3_reached_72 : decode cX3_reached 72 = .ok (.ifCond .eq 8, 3) := by decide +kernel
theorem dX3_reached_75 : decode cX3_reached 75 = .ok (.iload_n 3, 1) := by decide +kernel
theorem dX3_reached_76 : decode cX3_reached 76 = .ok (.iload 7, 2) := by decide +kernel
theorem dX3_reached_78 : decode cX3_reached 78 = .ok (.ior, 1) := by decide +kernel
theorem dX3_reached_79 : decode cX3_reached 79 = .ok (.istore_n 3, 1) := by decide +kernel
theorem dX3_reached_80 : decode cX3_reached 80 = .ok (.iinc 6 1, 3) := by decide +kernel
theorem dX3_reached_83 : decode cX3_reached 83 = .ok (.goto (-54), 3) := by decide +kernel
theorem dX3_reached_86 : decode cX3_reached 86 = .ok (.iinc 5 1, 3) := by decide +kernel
theorem dX3_reached_89 : decode cX3_reached 89 = .ok (.goto (-81), 3) := by decide +kernel
theorem dX3_reached_92 : decode cX3_reached 92 = .ok (.iload_n 3, 1) := by decide +kernel
theorem dX3_reached_93 : decode cX3_reached 93 = .ok (.ireturn, 1) := by decide +kernel
theorem dX3_sets_0 : decode cX3_sets 0 = .ok (.iconst 0, 1) := by decide +kernel
theorem dX3_sets_1 : decode cX3_sets 1 = .ok (.istore_n 1, 1) := by decide +kernel
theorem dX3_sets_2 : decode cX3_sets 2 = .ok (.iconst 0, 1) := by decide +kernel
theorem dX3_sets_3 : decode cX3_sets 3 = .ok (.istore_n 2, 1) := by decide +kernel
theorem dX3_sets_4 : decode cX3_sets 4 = .ok (.iconst 0, 1) := by decide +kernel
theorem dX3_sets_5 : decode cX3_sets 5 = .ok (.istore_n 3, 1) := by decide +kernel
theorem dX3_sets_6 : decode cX3_sets 6 = .ok (.iload_n 3, 1) := by decide +kernel
theorem dX3_sets_7 : decode cX3_sets 7 = .ok (.aload_n 0, 1) := by decide +kernel
theorem dX3_sets_8 : decode cX3_sets 8 = .ok (.getfield 9, 3) := by decide +kernel
theorem dX3_sets_11 : decode cX3_sets 11 = .ok (.if_icmp .ge 34, 3) := by decide +kernel
theorem dX3_sets_14 : decode cX3_sets 14 = .ok (.iload_n 1, 1) := by decide +kernel
theorem dX3_sets_15 : decode cX3_sets 15 = .ok (.iload_n 3, 1) := by decide +kernel
theorem dX3_sets_16 : decode cX3_sets 16 = .ok (.invokestatic 55, 3) := by decide +kernel
theorem dX3_sets_19 : decode cX3_sets 19 = .ok (.ifCond .ne 20, 3) := by decide +kernel
theorem dX3_sets_22 : decode cX3_sets 22 = .ok (.iload_n 1, 1) := by decide +kernel
theorem dX3_sets_23 : decode cX3_sets 23 = .ok (.aload_n 0, 1) := by decide +kernel
theorem dX3_sets_24 : decode cX3_sets 24 = .ok (.iconst 1, 1) := by decide +kernel
theorem dX3_sets_25 : decode cX3_sets 25 = .ok (.iload_n 3, 1) := by decide +kernel
theorem dX3_sets_26 : decode cX3_sets 26 = .ok (.ishl, 1) := by decide +kernel
theorem dX3_sets_27 : decode cX3_sets 27 = .ok (.aload_n 0, 1) := by decide +kernel
theorem dX3_sets_28 : decode cX3_sets 28 = .ok (.invokevirtual 58, 3) := by decide +kernel
theorem dX3_sets_31 : decode cX3_sets 31 = .ok (.invokevirtual 62, 3) := by decide +kernel
theorem dX3_sets_34 : decode cX3_sets 34 = .ok (.ior, 1) := by decide +kernel
theorem dX3_sets_35 : decode cX3_sets 35 = .ok (.istore_n 1, 1) := by decide +kernel
theorem dX3_sets_36 : decode cX3_sets 36 = .ok (.iinc 2 1, 3) := by decide +kernel
theorem dX3_sets_39 : decode cX3_sets 39 = .ok (.iinc 3 1, 3) := by decide +kernel
theorem dX3_sets_42 : decode cX3_sets 42 = .ok (.goto (-36), 3) := by decide +kernel
theorem dX3_sets_45 : decode cX3_sets 45 = .ok (.iload_n 2, 1) := by decide +kernel
theorem dX3_sets_46 : decode cX3_sets 46 = .ok (.ireturn, 1) := by decide +kernel
theorem dX3_copy_0 : decode cX3_copy 0 = .ok (.aload_n 0, 1) := by decide +kernel
theorem dX3_copy_1 : decode cX3_copy 1 = .ok (.aload_n 1, 1) := by decide +kernel
theorem dX3_copy_2 : decode cX3_copy 2 = .ok (.getfield 9, 3) := by decide +kernel
theorem dX3_copy_5 : decode cX3_copy 5 = .ok (.putfield 9, 3) := by decide +kernel
theorem dX3_copy_8 : decode cX3_copy 8 = .ok (.aload_n 0, 1) := by decide +kernel
theorem dX3_copy_9 : decode cX3_copy 9 = .ok (.aload_n 1, 1) := by decide +kernel
theorem dX3_copy_10 : decode cX3_copy 10 = .ok (.getfield 15, 3) := by decide +kernel
theorem dX3_copy_13 : decode cX3_copy 13 = .ok (.putfield 15, 3) := by decide +kernel
theorem dX3_copy_16 : decode cX3_copy 16 = .ok (.iconst 0, 1) := by decide +kernel
theorem dX3_copy_17 : decode cX3_copy 17 = .ok (.istore_n 2, 1) := by decide +kernel
theorem dX3_copy_18 : decode cX3_copy 18 = .ok (.iload_n 2, 1) := by decide +kernel
theorem dX3_copy_19 : decode cX3_copy 19 = .ok (.aload_n 0, 1) := by decide +kernel
theorem dX3_copy_20 : decode cX3_copy 20 = .ok (.getfield 15, 3) := by decide +kernel
theorem dX3_copy_23 : decode cX3_copy 23 = .ok (.if_icmp .ge 16, 3) := by decide +kernel
theorem dX3_copy_26 : decode cX3_copy 26 = .ok (.aload_n 0, 1) := by decide +kernel
theorem dX3_copy_27 : decode cX3_copy 27 = .ok (.aload_n 1, 1) := by decide +kernel
theorem dX3_copy_28 : decode cX3_copy 28 = .ok (.iload_n 2, 1) := by decide +kernel
theorem dX3_copy_29 : decode cX3_copy 29 = .ok (.iload_n 2, 1) := by decide +kernel
theorem dX3_copy_30 : decode cX3_copy 30 = .ok (.invokevirtual 66, 3) := by decide +kernel
theorem dX3_copy_33 : decode cX3_copy 33 = .ok (.iinc 2 1, 3) := by decide +kernel
theorem dX3_copy_36 : decode cX3_copy 36 = .ok (.goto (-18), 3) := by decide +kernel
theorem dX3_copy_39 : decode cX3_copy 39 = .ok (.return_, 1) := by decide +kernel
theorem dX3_copyWay_0 : decode cX3_copyWay 0 = .ok (.aload_n 0, 1) := by decide +kernel
theorem dX3_copyWay_1 : decode cX3_copyWay 1 = .ok (.getfield 18, 3) := by decide +kernel
theorem dX3_copyWay_4 : decode cX3_copyWay 4 = .ok (.iload_n 3, 1) := by decide +kernel
theorem dX3_copyWay_5 : decode cX3_copyWay 5 = .ok (.aload_n 1, 1) := by decide +kernel
theorem dX3_copyWay_6 : decode cX3_copyWay 6 = .ok (.getfield 18, 3) := by decide +kernel
theorem dX3_copyWay_9 : decode cX3_copyWay 9 = .ok (.iload_n 2, 1) := by decide +kernel
theorem dX3_copyWay_10 : decode cX3_copyWay 10 = .ok (.iaload, 1) := by decide +kernel
theorem dX3_copyWay_11 : decode cX3_copyWay 11 = .ok (.iastore, 1) := by decide +kernel
theorem dX3_copyWay_12 : decode cX3_copyWay 12 = .ok (.aload_n 0, 1) := by decide +kernel
theorem dX3_copyWay_13 : decode cX3_copyWay 13 = .ok (.getfield 22, 3) := by decide +kernel
theorem dX3_copyWay_16 : decode cX3_copyWay 16 = .ok (.iload_n 3, 1) := by decide +kernel
theorem dX3_copyWay_17 : decode cX3_copyWay 17 = .ok (.aload_n 1, 1) := by decide +kernel
theorem dX3_copyWay_18 : decode cX3_copyWay 18 = .ok (.getfield 22, 3) := by decide +kernel
theorem dX3_copyWay_21 : decode cX3_copyWay 21 = .ok (.iload_n 2, 1) := by decide +kernel
theorem dX3_copyWay_22 : decode cX3_copyWay 22 = .ok (.iaload, 1) := by decide +kernel
theorem dX3_copyWay_23 : decode cX3_copyWay 23 = .ok (.iastore, 1) := by decide +kernel
theorem dX3_copyWay_24 : decode cX3_copyWay 24 = .ok (.aload_n 0, 1) := by decide +kernel
theorem dX3_copyWay_25 : decode cX3_copyWay 25 = .ok (.getfield 25, 3) := by decide +kernel
theorem dX3_copyWay_28 : decode cX3_copyWay 28 = .ok (.iload_n 3, 1) := by decide +kernel
theorem dX3_copyWay_29 : decode cX3_copyWay 29 = .ok (.aload_n 1, 1) := by decide +kernel
theorem dX3_copyWay_30 : decode cX3_copyWay 30 = .ok (.getfield 25, 3) := by decide +kernel
theorem dX3_copyWay_33 : decode cX3_copyWay 33 = .ok (.iload_n 2, 1) := by decide +kernel
theorem dX3_copyWay_34 : decode cX3_copyWay 34 = .ok (.iaload, 1) := by decide +kernel
theorem dX3_copyWay_35 : decode cX3_copyWay 35 = .ok (.iastore, 1) := by decide +kernel
theorem dX3_copyWay_36 : decode cX3_copyWay 36 = .ok (.aload_n 0, 1) := by decide +kernel
theorem dX3_copyWay_37 : decode cX3_copyWay 37 = .ok (.getfield 28, 3) := by decide +kernel
theorem dX3_copyWay_40 : decode cX3_copyWay 40 = .ok (.iload_n 3, 1) := by decide +kernel
theorem dX3_copyWay_41 : decode cX3_copyWay 41 = .ok (.aload_n 1, 1) := by decide +kernel
theorem dX3_copyWay_42 : decode cX3_copyWay 42 = .ok (.getfield 28, 3) := by decide +kernel
theorem dX3_copyWay_45 : decode cX3_copyWay 45 = .ok (.iload_n 2, 1) := by decide +kernel
theorem dX3_copyWay_46 : decode cX3_copyWay 46 = .ok (.iaload, 1) := by decide +kernel
theorem dX3_copyWay_47 : decode cX3_copyWay 47 = .ok (.iastore, 1) := by decide +kernel
theorem dX3_copyWay_48 : decode cX3_copyWay 48 = .ok (.aload_n 0, 1) := by decide +kernel
theorem dX3_copyWay_49 : decode cX3_copyWay 49 = .ok (.getfield 31, 3) := by decide +kernel
theorem dX3_copyWay_52 : decode cX3_copyWay 52 = .ok (.iload_n 3, 1) := by decide +kernel
theorem dX3_copyWay_53 : decode cX3_copyWay 53 = .ok (.aload_n 1, 1) := by decide +kernel
theorem dX3_copyWay_54 : decode cX3_copyWay 54 = .ok (.getfield 31, 3) := by decide +kernel
theorem dX3_copyWay_57 : decode cX3_copyWay 57 = .ok (.iload_n 2, 1) := by decide +kernel
theorem dX3_copyWay_58 : decode cX3_copyWay 58 = .ok (.iaload, 1) := by decide +kernel
theorem dX3_copyWay_59 : decode cX3_copyWay 59 = .ok (.iastore, 1) := by decide +kernel
theorem dX3_copyWay_60 : decode cX3_copyWay 60 = .ok (.aload_n 0, 1) := by decide +kernel
theorem dX3_copyWay_61 : decode cX3_copyWay 61 = .ok (.getfield 34, 3) := by decide +kernel
theorem dX3_copyWay_64 : decode cX3_copyWay 64 = .ok (.iload_n 3, 1) := by decide +kernel
theorem dX3_copyWay_65 : decode cX3_copyWay 65 = .ok (.aload_n 1, 1) := by decide +kernel
theorem dX3_copyWay_66 : decode cX3_copyWay 66 = .ok (.getfield 34, 3) := by decide +kernel
theorem dX3_copyWay_69 : decode cX3_copyWay 69 = .ok (.iload_n 2, 1) := by decide +kernel
theorem dX3_copyWay_70 : decode cX3_copyWay 70 = .ok (.iaload, 1) := by decide +kernel
theorem dX3_copyWay_71 : decode cX3_copyWay 71 = .ok (.iastore, 1) := by decide +kernel
theorem dX3_copyWay_72 : decode cX3_copyWay 72 = .ok (.return_, 1) := by decide +kernel
theorem dX3_lay_0 : decode cX3_lay 0 = .ok (.aload_n 0, 1) := by decide +kernel
theorem dX3_lay_1 : decode cX3_lay 1 = .ok (.getfield 18, 3) := by decide +kernel
theorem dX3_lay_4 : decode cX3_lay 4 = .ok (.iload_n 1, 1) := by decide +kernel
theorem dX3_lay_5 : decode cX3_lay 5 = .ok (.iload_n 2, 1) := by decide +kernel
theorem dX3_lay_6 : decode cX3_lay 6 = .ok (.iastore, 1) := by decide +kernel
theorem dX3_lay_7 : decode cX3_lay 7 = .ok (.aload_n 0, 1) := by decide +kernel
theorem dX3_lay_8 : decode cX3_lay 8 = .ok (.getfield 22, 3) := by decide +kernel
theorem dX3_lay_11 : decode cX3_lay 11 = .ok (.iload_n 1, 1) := by decide +kernel
theorem dX3_lay_12 : decode cX3_lay 12 = .ok (.iload_n 3, 1) := by decide +kernel
theorem dX3_lay_13 : decode cX3_lay 13 = .ok (.iastore, 1) := by decide +kernel
theorem dX3_lay_14 : decode cX3_lay 14 = .ok (.aload_n 0, 1) := by decide +kernel
theorem dX3_lay_15 : decode cX3_lay 15 = .ok (.getfield 25, 3) := by decide +kernel
theorem dX3_lay_18 : decode cX3_lay 18 = .ok (.iload_n 1, 1) := by decide +kernel
theorem dX3_lay_19 : decode cX3_lay 19 = .ok (.iconst 0, 1) := by decide +kernel
theorem dX3_lay_20 : decode cX3_lay 20 = .ok (.iastore, 1) := by decide +kernel
theorem dX3_lay_21 : decode cX3_lay 21 = .ok (.aload_n 0, 1) := by decide +kernel
theorem dX3_lay_22 : decode cX3_lay 22 = .ok (.getfield 28, 3) := by decide +kernel
theorem dX3_lay_25 : decode cX3_lay 25 = .ok (.iload_n 1, 1) := by decide +kernel
theorem dX3_lay_26 : decode cX3_lay 26 = .ok (.iconst 0, 1) := by decide +kernel
theorem dX3_lay_27 : decode cX3_lay 27 = .ok (.iastore, 1) := by decide +kernel
theorem dX3_lay_28 : decode cX3_lay 28 = .ok (.aload_n 0, 1) := by decide +kernel
theorem dX3_lay_29 : decode cX3_lay 29 = .ok (.getfield 31, 3) := by decide +kernel
theorem dX3_lay_32 : decode cX3_lay 32 = .ok (.iload_n 1, 1) := by decide +kernel
theorem dX3_lay_33 : decode cX3_lay 33 = .ok (.iload 4, 2) := by decide +kernel
theorem dX3_lay_35 : decode cX3_lay 35 = .ok (.iastore, 1) := by decide +kernel
theorem dX3_lay_36 : decode cX3_lay 36 = .ok (.aload_n 0, 1) := by decide +kernel
theorem dX3_lay_37 : decode cX3_lay 37 = .ok (.getfield 34, 3) := by decide +kernel
theorem dX3_lay_40 : decode cX3_lay 40 = .ok (.iload_n 1, 1) := by decide +kernel
theorem dX3_lay_41 : decode cX3_lay 41 = .ok (.iload 5, 2) := by decide +kernel
theorem dX3_lay_43 : decode cX3_lay 43 = .ok (.iastore, 1) := by decide +kernel
theorem dX3_lay_44 : decode cX3_lay 44 = .ok (.return_, 1) := by decide +kernel
theorem dX3_more_0 : decode cX3_more 0 = .ok (.aload_n 0, 1) := by decide +kernel
theorem dX3_more_1 : decode cX3_more 1 = .ok (.getfield 15, 3) := by decide +kernel
theorem dX3_more_4 : decode cX3_more 4 = .ok (.bipush 10, 2) := by decide +kernel
theorem dX3_more_6 : decode cX3_more 6 = .ok (.if_icmp .gt 13, 3) := by decide +kernel
theorem dX3_more_9 : decode cX3_more 9 = .ok (.aload_n 0, 1) := by decide +kernel
theorem dX3_more_10 : decode cX3_more 10 = .ok (.dup, 1) := by decide +kernel
theorem dX3_more_11 : decode cX3_more 11 = .ok (.getfield 15, 3) := by decide +kernel
theorem dX3_more_14 : decode cX3_more 14 = .ok (.iconst 1, 1) := by decide +kernel
theorem dX3_more_15 : decode cX3_more 15 = .ok (.iadd, 1) := by decide +kernel
theorem dX3_more_16 : decode cX3_more 16 = .ok (.putfield 15, 3) := by decide +kernel
theorem dX3_more_19 : decode cX3_more 19 = .ok (.aload_n 0, 1) := by decide +kernel
theorem dX3_more_20 : decode cX3_more 20 = .ok (.getfield 15, 3) := by decide +kernel
theorem dX3_more_23 : decode cX3_more 23 = .ok (.iconst 1, 1) := by decide +kernel
theorem dX3_more_24 : decode cX3_more 24 = .ok (.isub, 1) := by decide +kernel
theorem dX3_more_25 : decode cX3_more 25 = .ok (.ireturn, 1) := by decide +kernel
theorem dX3_changePoints_0 : decode cX3_changePoints 0 = .ok (.iload_n 1, 1) := by decide +kernel
theorem dX3_changePoints_1 : decode cX3_changePoints 1 = .ok (.iconst 2, 1) := by decide +kernel
theorem dX3_changePoints_2 : decode cX3_changePoints 2 = .ok (.bipush 6, 2) := by decide +kernel
theorem dX3_changePoints_4 : decode cX3_changePoints 4 = .ok (.invokestatic 70, 3) := by decide +kernel
theorem dX3_changePoints_7 : decode cX3_changePoints 7 = .ok (.istore_n 2, 1) := by decide +kernel
theorem dX3_changePoints_8 : decode cX3_changePoints 8 = .ok (.iload_n 2, 1) := by decide +kernel
theorem dX3_changePoints_9 : decode cX3_changePoints 9 = .ok (.ifCond .eq 5, 3) := by decide +kernel
theorem dX3_changePoints_12 : decode cX3_changePoints 12 = .ok (.iload_n 2, 1) := by decide +kernel
theorem dX3_changePoints_13 : decode cX3_changePoints 13 = .ok (.ireturn, 1) := by decide +kernel
theorem dX3_changePoints_14 : decode cX3_changePoints 14 = .ok (.aload_n 0, 1) := by decide +kernel
theorem dX3_changePoints_15 : decode cX3_changePoints 15 = .ok (.getfield 9, 3) := by decide +kernel
theorem dX3_changePoints_18 : decode cX3_changePoints 18 = .ok (.istore_n 3, 1) := by decide +kernel
theorem dX3_changePoints_19 : decode cX3_changePoints 19 = .ok (.iconst 0, 1) := by decide +kernel
theorem dX3_changePoints_20 : decode cX3_changePoints 20 = .ok (.istore 4, 2) := by decide +kernel
theorem dX3_changePoints_22 : decode cX3_changePoints 22 = .ok (.iconst 0, 1) := by decide +kernel
theorem dX3_changePoints_23 : decode cX3_changePoints 23 = .ok (.istore 5, 2) := by decide +kernel
theorem dX3_changePoints_25 : decode cX3_changePoints 25 = .ok (.iload 5, 2) := by decide +kernel
theorem dX3_changePoints_27 : decode cX3_changePoints 27 = .ok (.aload_n 0, 1) := by decide +kernel
theorem dX3_changePoints_28 : decode cX3_changePoints 28 = .ok (.getfield 15, 3) := by decide +kernel
theorem dX3_changePoints_31 : decode cX3_changePoints 31 = .ok (.if_icmp .ge 43, 3) := by decide +kernel
theorem dX3_changePoints_34 : decode cX3_changePoints 34 = .ok (.aload_n 0, 1) := by decide +kernel
theorem dX3_changePoints_35 : decode cX3_changePoints 35 = .ok (.getfield 18, 3) := by decide +kernel
theorem dX3_changePoints_38 : decode cX3_changePoints 38 = .ok (.iload 5, 2) := by decide +kernel
theorem dX3_changePoints_40 : decode cX3_changePoints 40 = .ok (.iaload, 1) := by decide +kernel
theorem dX3_changePoints_41 : decode cX3_changePoints 41 = .ok (.iload_n 1, 1) := by decide +kernel
theorem dX3_changePoints_42 : decode cX3_changePoints 42 = .ok (.if_icmp .ge 26, 3) := by decide +kernel
theorem dX3_changePoints_45 : decode cX3_changePoints 45 = .ok (.aload_n 0, 1) := by decide +kernel
theorem dX3_changePoints_46 : decode cX3_changePoints 46 = .ok (.getfield 22, 3) := by decide +kernel
theorem dX3_changePoints_49 : decode cX3_changePoints 49 = .ok (.iload 5, 2) := by decide +kernel
theorem dX3_changePoints_51 : decode cX3_changePoints 51 = .ok (.iaload, 1) := by decide +kernel
theorem dX3_changePoints_52 : decode cX3_changePoints 52 = .ok (.iload_n 1, 1) := by decide +kernel
theorem dX3_changePoints_53 : decode cX3_changePoints 53 = .ok (.if_icmp .ge 15, 3) := by decide +kernel
theorem dX3_changePoints_56 : decode cX3_changePoints 56 = .ok (.aload_n 0, 1) := by decide +kernel
theorem dX3_changePoints_57 : decode cX3_changePoints 57 = .ok (.aload_n 0, 1) := by decide +kernel
theorem dX3_changePoints_58 : decode cX3_changePoints 58 = .ok (.iload 5, 2) := by decide +kernel
theorem dX3_changePoints_60 : decode cX3_changePoints 60 = .ok (.iload 4, 2) := by decide +kernel
theorem dX3_changePoints_62 : decode cX3_changePoints 62 = .ok (.invokevirtual 66, 3) := by decide +kernel
theorem dX3_changePoints_65 : decode cX3_changePoints 65 = .ok (.iinc 4 1, 3) := by decide +kernel
theorem dX3_changePoints_68 : decode cX3_changePoints 68 = .ok (.iinc 5 1, 3) := by decide +kernel
theorem dX3_changePoints_71 : decode cX3_changePoints 71 = .ok (.goto (-46), 3) := by decide +kernel
theorem dX3_changePoints_74 : decode cX3_changePoints 74 = .ok (.aload_n 0, 1) := by decide +kernel
theorem dX3_changePoints_75 : decode cX3_changePoints 75 = .ok (.iload_n 1, 1) := by decide +kernel
theorem dX3_changePoints_76 : decode cX3_changePoints 76 = .ok (.putfield 9, 3) := by decide +kernel
theorem dX3_changePoints_79 : decode cX3_changePoints 79 = .ok (.aload_n 0, 1) := by decide +kernel
theorem dX3_changePoints_80 : decode cX3_changePoints 80 = .ok (.iload 4, 2) := by decide +kernel
theorem dX3_changePoints_82 : decode cX3_changePoints 82 = .ok (.putfield 15, 3) := by decide +kernel
theorem dX3_changePoints_85 : decode cX3_changePoints 85 = .ok (.iload_n 3, 1) := by decide +kernel
theorem dX3_changePoints_86 : decode cX3_changePoints 86 = .ok (.ireturn, 1) := by decide +kernel
theorem dX3_join_0 : decode cX3_join 0 = .ok (.aload_n 0, 1) := by decide +kernel
theorem dX3_join_1 : decode cX3_join 1 = .ok (.iload_n 1, 1) := by decide +kernel
theorem dX3_join_2 : decode cX3_join 2 = .ok (.invokevirtual 73, 3) := by decide +kernel
theorem dX3_join_5 : decode cX3_join 5 = .ok (.ifCond .eq 16, 3) := by decide +kernel
theorem dX3_join_8 : decode cX3_join 8 = .ok (.aload_n 0, 1) := by decide +kernel
theorem dX3_join_9 : decode cX3_join 9 = .ok (.iload_n 2, 1) := by decide +kernel
theorem dX3_join_10 : decode cX3_join 10 = .ok (.invokevirtual 73, 3) := by decide +kernel
theorem dX3_join_13 : decode cX3_join 13 = .ok (.ifCond .eq 8, 3) := by decide +kernel
theorem dX3_join_16 : decode cX3_join 16 = .ok (.iload_n 1, 1) := by decide +kernel
theorem dX3_join_17 : decode cX3_join 17 = .ok (.iload_n 2, 1) := by decide +kernel
theorem dX3_join_18 : decode cX3_join 18 = .ok (.if_icmp .ne 5, 3) := by decide +kernel
theorem dX3_join_21 : decode cX3_join 21 = .ok (.iconst (-1), 1) := by decide +kernel
theorem dX3_join_22 : decode cX3_join 22 = .ok (.ireturn, 1) := by decide +kernel
theorem dX3_join_23 : decode cX3_join 23 = .ok (.iload_n 3, 1) := by decide +kernel
theorem dX3_join_24 : decode cX3_join 24 = .ok (.iconst 1, 1) := by decide +kernel
theorem dX3_join_25 : decode cX3_join 25 = .ok (.if_icmp .lt 9, 3) := by decide +kernel
theorem dX3_join_28 : decode cX3_join 28 = .ok (.iload 4, 2) := by decide +kernel
theorem dX3_join_30 : decode cX3_join 30 = .ok (.iconst 1, 1) := by decide +kernel
theorem dX3_join_31 : decode cX3_join 31 = .ok (.if_icmp .ge 6, 3) := by decide +kernel
theorem dX3_join_34 : decode cX3_join 34 = .ok (.bipush (-4), 2) := by decide +kernel
theorem dX3_join_36 : decode cX3_join 36 = .ok (.ireturn, 1) := by decide +kernel
theorem dX3_join_37 : decode cX3_join 37 = .ok (.iload_n 3, 1) := by decide +kernel
theorem dX3_join_38 : decode cX3_join 38 = .ok (.bipush 9, 2) := by decide +kernel
theorem dX3_join_40 : decode cX3_join 40 = .ok (.if_icmp .gt 19, 3) := by decide +kernel
theorem dX3_join_43 : decode cX3_join 43 = .ok (.iload 4, 2) := by decide +kernel
theorem dX3_join_45 : decode cX3_join 45 = .ok (.bipush 9, 2) := by decide +kernel
theorem dX3_join_47 : decode cX3_join 47 = .ok (.if_icmp .gt 12, 3) := by decide +kernel
theorem dX3_join_50 : decode cX3_join 50 = .ok (.aload_n 0, 1) := by decide +kernel
theorem dX3_join_51 : decode cX3_join 51 = .ok (.getfield 15, 3) := by decide +kernel
theorem dX3_join_54 : decode cX3_join 54 = .ok (.bipush 10, 2) := by decide +kernel
theorem dX3_join_56 : decode cX3_join 56 = .ok (.if_icmp .lt 6, 3) := by decide +kernel
theorem dX3_join_59 : decode cX3_join 59 = .ok (.bipush (-6), 2) := by decide +kernel
theorem dX3_join_61 : decode cX3_join 61 = .ok (.ireturn, 1) := by decide +kernel
theorem dX3_join_62 : decode cX3_join 62 = .ok (.aload_n 0, 1) := by decide +kernel
theorem dX3_join_63 : decode cX3_join 63 = .ok (.invokevirtual 77, 3) := by decide +kernel
theorem dX3_join_66 : decode cX3_join 66 = .ok (.istore 5, 2) := by decide +kernel
theorem dX3_join_68 : decode cX3_join 68 = .ok (.aload_n 0, 1) := by decide +kernel
theorem dX3_join_69 : decode cX3_join 69 = .ok (.iload 5, 2) := by decide +kernel
theorem dX3_join_71 : decode cX3_join 71 = .ok (.iload_n 1, 1) := by decide +kernel
theorem dX3_join_72 : decode cX3_join 72 = .ok (.iload_n 2, 1) := by decide +kernel
theorem dX3_join_73 : decode cX3_join 73 = .ok (.iload_n 3, 1) := by decide +kernel
theorem dX3_join_74 : decode cX3_join 74 = .ok (.iload 4, 2) := by decide +kernel
theorem dX3_join_76 : decode cX3_join 76 = .ok (.invokevirtual 80, 3) := by decide +kernel
theorem dX3_join_79 : decode cX3_join 79 = .ok (.iload 5, 2) := by decide +kernel
theorem dX3_join_81 : decode cX3_join 81 = .ok (.ireturn, 1) := by decide +kernel
theorem dX3_changeKind_0 : decode cX3_changeKind 0 = .ok (.aload_n 0, 1) := by decide +kernel
theorem dX3_changeKind_1 : decode cX3_changeKind 1 = .ok (.iload_n 1, 1) := by decide +kernel
theorem dX3_changeKind_2 : decode cX3_changeKind 2 = .ok (.invokevirtual 84, 3) := by decide +kernel
theorem dX3_changeKind_5 : decode cX3_changeKind 5 = .ok (.ifCond .ne 5, 3) := by decide +kernel
theorem dX3_changeKind_8 : decode cX3_changeKind 8 = .ok (.iconst (-1), 1) := by decide +kernel
theorem dX3_changeKind_9 : decode cX3_changeKind 9 = .ok (.ireturn, 1) := by decide +kernel
theorem dX3_changeKind_10 : decode cX3_changeKind 10 = .ok (.iload_n 2, 1) := by decide +kernel
theorem dX3_changeKind_11 : decode cX3_changeKind 11 = .ok (.invokestatic 87, 3) := by decide +kernel
theorem dX3_changeKind_14 : decode cX3_changeKind 14 = .ok (.ifCond .eq 13, 3) := by decide +kernel
theorem dX3_changeKind_17 : decode cX3_changeKind 17 = .ok (.iload_n 3, 1) := by decide +kernel
theorem dX3_changeKind_18 : decode cX3_changeKind 18 = .ok (.iconst 0, 1) := by decide +kernel
theorem dX3_changeKind_19 : decode cX3_changeKind 19 = .ok (.bipush 9, 2) := by decide +kernel
theorem dX3_changeKind_21 : decode cX3_changeKind 21 = .ok (.invokestatic 70, 3) := by decide +kernel
theorem dX3_changeKind_24 : decode cX3_changeKind 24 = .ok (.goto 5, 3) := by decide +kernel
theorem dX3_changeKind_27 : decode cX3_changeKind 27 = .ok (.bipush (-2), 2) := by decide +kernel
theorem dX3_changeKind_29 : decode cX3_changeKind 29 = .ok (.istore 4, 2) := by decide +kernel
theorem dX3_changeKind_31 : decode cX3_changeKind 31 = .ok (.iload 4, 2) := by decide +kernel
theorem dX3_changeKind_33 : decode cX3_changeKind 33 = .ok (.ifCond .eq 6, 3) := by decide +kernel
theorem dX3_changeKind_36 : decode cX3_changeKind 36 = .ok (.iload 4, 2) := by decide +kernel
theorem dX3_changeKind_38 : decode cX3_changeKind 38 = .ok (.ireturn, 1) := by decide +kernel
theorem dX3_changeKind_39 : decode cX3_changeKind 39 = .ok (.bipush 10, 2) := by decide +kernel
theorem dX3_changeKind_41 : decode cX3_changeKind 41 = .ok (.aload_n 0, 1) := by decide +kernel
theorem dX3_changeKind_42 : decode cX3_changeKind 42 = .ok (.getfield 25, 3) := by decide +kernel
theorem dX3_changeKind_45 : decode cX3_changeKind 45 = .ok (.iload_n 1, 1) := by decide +kernel
theorem dX3_changeKind_46 : decode cX3_changeKind 46 = .ok (.iaload, 1) := by decide +kernel
theorem dX3_changeKind_47 : decode cX3_changeKind 47 = .ok (.imul, 1) := by decide +kernel
theorem dX3_changeKind_48 : decode cX3_changeKind 48 = .ok (.aload_n 0, 1) := by decide +kernel
theorem dX3_changeKind_49 : decode cX3_changeKind 49 = .ok (.getfield 28, 3) := by decide +kernel
theorem dX3_changeKind_52 : decode cX3_changeKind 52 = .ok (.iload_n 1, 1) := by decide +kernel
theorem dX3_changeKind_53 : decode cX3_changeKind 53 = .ok (.iaload, 1) := by decide +kernel
theorem dX3_changeKind_54 : decode cX3_changeKind 54 = .ok (.iadd, 1) := by decide +kernel
theorem dX3_changeKind_55 : decode cX3_changeKind 55 = .ok (.istore 5, 2) := by decide +kernel
theorem dX3_changeKind_57 : decode cX3_changeKind 57 = .ok (.aload_n 0, 1) := by decide +kernel
theorem dX3_changeKind_58 : decode cX3_changeKind 58 = .ok (.getfield 25, 3) := by decide +kernel
theorem dX3_changeKind_61 : decode cX3_changeKind 61 = .ok (.iload_n 1, 1) := by decide +kernel
theorem dX3_changeKind_62 : decode cX3_changeKind 62 = .ok (.iload_n 2, 1) := by decide +kernel
theorem dX3_changeKind_63 : decode cX3_changeKind 63 = .ok (.iastore, 1) := by decide +kernel
theorem dX3_changeKind_64 : decode cX3_changeKind 64 = .ok (.aload_n 0, 1) := by decide +kernel
theorem dX3_changeKind_65 : decode cX3_changeKind 65 = .ok (.getfield 28, 3) := by decide +kernel
theorem dX3_changeKind_68 : decode cX3_changeKind 68 = .ok (.iload_n 1, 1) := by decide +kernel
theorem dX3_changeKind_69 : decode cX3_changeKind 69 = .ok (.iload_n 3, 1) := by decide +kernel
theorem dX3_changeKind_70 : decode cX3_changeKind 70 = .ok (.iastore, 1) := by decide +kernel
theorem dX3_changeKind_71 : decode cX3_changeKind 71 = .ok (.iload 5, 2) := by decide +kernel
theorem dX3_changeKind_73 : decode cX3_changeKind 73 = .ok (.ireturn, 1) := by decide +kernel
theorem dX3_changeLoad_0 : decode cX3_changeLoad 0 = .ok (.aload_n 0, 1) := by decide +kernel
theorem dX3_changeLoad_1 : decode cX3_changeLoad 1 = .ok (.iload_n 1, 1) := by decide +kernel
theorem dX3_changeLoad_2 : decode cX3_changeLoad 2 = .ok (.invokevirtual 84, 3) := by decide +kernel
theorem dX3_changeLoad_5 : decode cX3_changeLoad 5 = .ok (.ifCond .eq 13, 3) := by decide +kernel
theorem dX3_changeLoad_8 : decode cX3_changeLoad 8 = .ok (.iload_n 2, 1) := by decide +kernel
theorem dX3_changeLoad_9 : decode cX3_changeLoad 9 = .ok (.iconst 1, 1) := by decide +kernel
theorem dX3_changeLoad_10 : decode cX3_changeLoad 10 = .ok (.bipush 9, 2) := by decide +kernel
theorem dX3_changeLoad_12 : decode cX3_changeLoad 12 = .ok (.invokestatic 70, 3) := by decide +kernel
theorem dX3_changeLoad_15 : decode cX3_changeLoad 15 = .ok (.goto 4, 3) := by decide +kernel
theorem dX3_changeLoad_18 : decode cX3_changeLoad 18 = .ok (.iconst (-1), 1) := by decide +kernel
theorem dX3_changeLoad_19 : decode cX3_changeLoad 19 = .ok (.istore_n 3, 1) := by decide +kernel
theorem dX3_changeLoad_20 : decode cX3_changeLoad 20 = .ok (.iload_n 3, 1) := by decide +kernel
theorem dX3_changeLoad_21 : decode cX3_changeLoad 21 = .ok (.ifCond .eq 5, 3) := by decide +kernel
theorem dX3_changeLoad_24 : decode cX3_changeLoad 24 = .ok (.iload_n 3, 1) := by decide +kernel
theorem dX3_changeLoad_25 : decode cX3_changeLoad 25 = .ok (.ireturn, 1) := by decide +kernel
theorem dX3_changeLoad_26 : decode cX3_changeLoad 26 = .ok (.aload_n 0, 1) := by decide +kernel
theorem dX3_changeLoad_27 : decode cX3_changeLoad 27 = .ok (.getfield 31, 3) := by decide +kernel
theorem dX3_changeLoad_30 : decode cX3_changeLoad 30 = .ok (.iload_n 1, 1) := by decide +kernel
theorem dX3_changeLoad_31 : decode cX3_changeLoad 31 = .ok (.iaload, 1) := by decide +kernel
theorem dX3_changeLoad_32 : decode cX3_changeLoad 32 = .ok (.istore 4, 2) := by decide +kernel
theorem dX3_changeLoad_34 : decode cX3_changeLoad 34 = .ok (.aload_n 0, 1) := by decide +kernel
theorem dX3_changeLoad_35 : decode cX3_changeLoad 35 = .ok (.getfield 31, 3) := by decide +kernel
theorem dX3_changeLoad_38 : decode cX3_changeLoad 38 = .ok (.iload_n 1, 1) := by decide +kernel
theorem dX3_changeLoad_39 : decode cX3_changeLoad 39 = .ok (.iload_n 2, 1) := by decide +kernel
theorem dX3_changeLoad_40 : decode cX3_changeLoad 40 = .ok (.iastore, 1) := by decide +kernel
theorem dX3_changeLoad_41 : decode cX3_changeLoad 41 = .ok (.iload 4, 2) := by decide +kernel
theorem dX3_changeLoad_43 : decode cX3_changeLoad 43 = .ok (.ireturn, 1) := by decide +kernel
theorem dX3_changeLength_0 : decode cX3_changeLength 0 = .ok (.aload_n 0, 1) := by decide +kernel
theorem dX3_changeLength_1 : decode cX3_changeLength 1 = .ok (.iload_n 1, 1) := by decide +kernel
theorem dX3_changeLength_2 : decode cX3_changeLength 2 = .ok (.invokevirtual 84, 3) := by decide +kernel
theorem dX3_changeLength_5 : decode cX3_changeLength 5 = .ok (.ifCond .eq 13, 3) := by decide +kernel
theorem dX3_changeLength_8 : decode cX3_changeLength 8 = .ok (.iload_n 2, 1) := by decide +kernel
theorem dX3_changeLength_9 : decode cX3_changeLength 9 = .ok (.iconst 1, 1) := by decide +kernel
theorem dX3_changeLength_10 : decode cX3_changeLength 10 = .ok (.bipush 9, 2) := by decide +kernel
theorem dX3_changeLength_12 : decode cX3_changeLength 12 = .ok (.invokestatic 70, 3) := by decide +kernel
theorem dX3_changeLength_15 : decode cX3_changeLength 15 = .ok (.goto 4, 3) := by decide +kernel
theorem dX3_changeLength_18 : decode cX3_changeLength 18 = .ok (.iconst (-1), 1) := by decide +kernel
theorem dX3_changeLength_19 : decode cX3_changeLength 19 = .ok (.istore_n 3, 1) := by decide +kernel
theorem dX3_changeLength_20 : decode cX3_changeLength 20 = .ok (.iload_n 3, 1) := by decide +kernel
theorem dX3_changeLength_21 : decode cX3_changeLength 21 = .ok (.ifCond .eq 5, 3) := by decide +kernel
theorem dX3_changeLength_24 : decode cX3_changeLength 24 = .ok (.iload_n 3, 1) := by decide +kernel
theorem dX3_changeLength_25 : decode cX3_changeLength 25 = .ok (.ireturn, 1) := by decide +kernel
theorem dX3_changeLength_26 : decode cX3_changeLength 26 = .ok (.aload_n 0, 1) := by decide +kernel
theorem dX3_changeLength_27 : decode cX3_changeLength 27 = .ok (.getfield 34, 3) := by decide +kernel
theorem dX3_changeLength_30 : decode cX3_changeLength 30 = .ok (.iload_n 1, 1) := by decide +kernel
theorem dX3_changeLength_31 : decode cX3_changeLength 31 = .ok (.iaload, 1) := by decide +kernel
theorem dX3_changeLength_32 : decode cX3_changeLength 32 = .ok (.istore 4, 2) := by decide +kernel
theorem dX3_changeLength_34 : decode cX3_changeLength 34 = .ok (.aload_n 0, 1) := by decide +kernel
theorem dX3_changeLength_35 : decode cX3_changeLength 35 = .ok (.getfield 34, 3) := by decide +kernel
theorem dX3_changeLength_38 : decode cX3_changeLength 38 = .ok (.iload_n 1, 1) := by decide +kernel
theorem dX3_changeLength_39 : decode cX3_changeLength 39 = .ok (.iload_n 2, 1) := by decide +kernel
theorem dX3_changeLength_40 : decode cX3_changeLength 40 = .ok (.iastore, 1) := by decide +kernel
theorem dX3_changeLength_41 : decode cX3_changeLength 41 = .ok (.iload 4, 2) := by decide +kernel
theorem dX3_changeLength_43 : decode cX3_changeLength 43 = .ok (.ireturn, 1) := by decide +kernel
theorem dX3_drop_0 : decode cX3_drop 0 = .ok (.aload_n 0, 1) := by decide +kernel
theorem dX3_drop_1 : decode cX3_drop 1 = .ok (.iload_n 1, 1) := by decide +kernel
theorem dX3_drop_2 : decode cX3_drop 2 = .ok (.invokevirtual 84, 3) := by decide +kernel
theorem dX3_drop_5 : decode cX3_drop 5 = .ok (.ifCond .ne 5, 3) := by decide +kernel
theorem dX3_drop_8 : decode cX3_drop 8 = .ok (.iconst (-1), 1) := by decide +kernel
theorem dX3_drop_9 : decode cX3_drop 9 = .ok (.ireturn, 1) := by decide +kernel
theorem dX3_drop_10 : decode cX3_drop 10 = .ok (.iload_n 1, 1) := by decide +kernel
theorem dX3_drop_11 : decode cX3_drop 11 = .ok (.iconst 1, 1) := by decide +kernel
theorem dX3_drop_12 : decode cX3_drop 12 = .ok (.iadd, 1) := by decide +kernel
theorem dX3_drop_13 : decode cX3_drop 13 = .ok (.istore_n 2, 1) := by decide +kernel
theorem dX3_drop_14 : decode cX3_drop 14 = .ok (.iload_n 2, 1) := by decide +kernel
theorem dX3_drop_15 : decode cX3_drop 15 = .ok (.aload_n 0, 1) := by decide +kernel
theorem dX3_drop_16 : decode cX3_drop 16 = .ok (.getfield 15, 3) := by decide +kernel
theorem dX3_drop_19 : decode cX3_drop 19 = .ok (.if_icmp .ge 18, 3) := by decide +kernel
theorem dX3_drop_22 : decode cX3_drop 22 = .ok (.aload_n 0, 1) := by decide +kernel
theorem dX3_drop_23 : decode cX3_drop 23 = .ok (.aload_n 0, 1) := by decide +kernel
theorem dX3_drop_24 : decode cX3_drop 24 = .ok (.iload_n 2, 1) := by decide +kernel
theorem dX3_drop_25 : decode cX3_drop 25 = .ok (.iload_n 2, 1) := by decide +kernel
theorem dX3_drop_26 : decode cX3_drop 26 = .ok (.iconst 1, 1) := by decide +kernel
theorem dX3_drop_27 : decode cX3_drop 27 = .ok (.isub, 1) := by decide +kernel
theorem dX3_drop_28 : decode cX3_drop 28 = .ok (.invokevirtual 66, 3) := by decide +kernel
theorem dX3_drop_31 : decode cX3_drop 31 = .ok (.iinc 2 1, 3) := by decide +kernel
theorem dX3_drop_34 : decode cX3_drop 34 = .ok (.goto (-20), 3) := by decide +kernel
theorem dX3_drop_37 : decode cX3_drop 37 = .ok (.aload_n 0, 1) := by decide +kernel
theorem dX3_drop_38 : decode cX3_drop 38 = .ok (.dup, 1) := by decide +kernel
theorem dX3_drop_39 : decode cX3_drop 39 = .ok (.getfield 15, 3) := by decide +kernel
theorem dX3_drop_42 : decode cX3_drop 42 = .ok (.iconst 1, 1) := by decide +kernel
theorem dX3_drop_43 : decode cX3_drop 43 = .ok (.isub, 1) := by decide +kernel
theorem dX3_drop_44 : decode cX3_drop 44 = .ok (.putfield 15, 3) := by decide +kernel
theorem dX3_drop_47 : decode cX3_drop 47 = .ok (.aload_n 0, 1) := by decide +kernel
theorem dX3_drop_48 : decode cX3_drop 48 = .ok (.getfield 15, 3) := by decide +kernel
theorem dX3_drop_51 : decode cX3_drop 51 = .ok (.ireturn, 1) := by decide +kernel
theorem dX4_init_0 : decode cX4_init 0 = .ok (.aload_n 0, 1) := by decide +kernel
theorem dX4_init_1 : decode cX4_init 1 = .ok (.invokespecial 1, 3) := by decide +kernel
theorem dX4_init_4 : decode cX4_init 4 = .ok (.aload_n 0, 1) := by decide +kernel
theorem dX4_init_5 : decode cX4_init 5 = .ok (.iconst 0, 1) := by decide +kernel
theorem dX4_init_6 : decode cX4_init 6 = .ok (.putfield 7, 3) := by decide +kernel
theorem dX4_init_9 : decode cX4_init 9 = .ok (.aload_n 0, 1) := by decide +kernel
theorem dX4_init_10 : decode cX4_init 10 = .ok (.bipush 120, 2) := by decide +kernel
theorem dX4_init_12 : decode cX4_init 12 = .ok (.newarray .int, 2) := by decide +kernel
theorem dX4_init_14 : decode cX4_init 14 = .ok (.putfield 13, 3) := by decide +kernel
theorem dX4_init_17 : decode cX4_init 17 = .ok (.return_, 1) := by decide +kernel
theorem dX4_addText_0 : decode cX4_addText 0 = .ok (.iconst 0, 1) := by decide +kernel
theorem dX4_addText_1 : decode cX4_addText 1 = .ok (.istore_n 2, 1) := by decide +kernel
theorem dX4_addText_2 : decode cX4_addText 2 = .ok (.iload_n 2, 1) := by decide +kernel
theorem dX4_addText_3 : decode cX4_addText 3 = .ok (.aload_n 1, 1) := by decide +kernel
theorem dX4_addText_4 : decode cX4_addText 4 = .ok (.invokevirtual 17, 3) := by decide +kernel
theorem dX4_addText_7 : decode cX4_addText 7 = .ok (.if_icmp .ge 18, 3) := by decide +kernel
theorem dX4_addText_10 : decode cX4_addText 10 = .ok (.aload_n 0, 1) := by decide +kernel
theorem dX4_addText_11 : decode cX4_addText 11 = .ok (.aload_n 1, 1) := by decide +kernel
theorem dX4_addText_12 : decode cX4_addText 12 = .ok (.iload_n 2, 1) := by decide +kernel
theorem dX4_addText_13 : decode cX4_addText 13 = .ok (.invokevirtual 23, 3) := by decide +kernel
theorem dX4_addText_16 : decode cX4_addText 16 = .ok (.invokevirtual 27, 3) := by decide +kernel
theorem dX4_addText_19 : decode cX4_addText 19 = .ok (.iinc 2 1, 3) := by decide +kernel
theorem dX4_addText_22 : decode cX4_addText 22 = .ok (.goto (-20), 3) := by decide +kernel
theorem dX4_addText_25 : decode cX4_addText 25 = .ok (.return_, 1) := by decide +kernel
theorem dX4_addNumber_0 : decode cX4_addNumber 0 = .ok (.lconst 1, 1) := by decide +kernel
theorem dX4_addNumber_1 : decode cX4_addNumber 1 = .ok (.lstore_n 3, 1) := by decide +kernel
theorem dX4_addNumber_2 : decode cX4_addNumber 2 = .ok (.iconst 0, 1) := by decide +kernel
theorem dX4_addNumber_3 : decode cX4_addNumber 3 = .ok (.istore 5, 2) := by decide +kernel
theorem dX4_addNumber_5 : decode cX4_addNumber 5 = .ok (.iload 5, 2) := by decide +kernel
theorem dX4_addNumber_7 : decode cX4_addNumber 7 = .ok (.bipush 17, 2) := by decide +kernel
theorem dX4_addNumber_9 : decode cX4_addNumber 9 = .ok (.if_icmp .ge 25, 3) := by decide +kernel
theorem dX4_addNumber_12 : decode cX4_addNumber 12 = .ok (.lload_n 1, 1) := by decide +kernel
theorem dX4_addNumber_13 : decode cX4_addNumber 13 = .ok (.ldc2_w 31, 3) := by decide +kernel
theorem dX4_addNumber_16 : decode cX4_addNumber 16 = .ok (.ldiv, 1) := by decide +kernel
theorem dX4_addNumber_17 : decode cX4_addNumber 17 = .ok (.lload_n 3, 1) := by decide +kernel
theorem dX4_addNumber_18 : decode cX4_addNumber 18 = .ok (.lcmp, 1) := by decide +kernel
theorem dX4_addNumber_19 : decode cX4_addNumber 19 = .ok (.ifCond .lt 15, 3) := by decide +kernel
theorem dX4_addNumber_22 : decode cX4_addNumber 22 = .ok (.lload_n 3, 1) := by decide +kernel
theorem dX4_addNumber_23 : decode cX4_addNumber 23 = .ok (.ldc2_w 31, 3) := by decide +kernel
theorem dX4_addNumber_26 : decode cX4_addNumber 26 = .ok (.lmul, 1) := by decide +kernel
theorem dX4_addNumber_27 : decode cX4_addNumber 27 = .ok (.lstore_n 3, 1) := by decide +kernel
theorem dX4_addNumber_28 : decode cX4_addNumber 28 = .ok (.iinc 5 1, 3) := by decide +kernel
theorem dX4_addNumber_31 : decode cX4_addNumber 31 = .ok (.goto (-26), 3) := by decide +kernel
theorem dX4_addNumber_34 : decode cX4_addNumber 34 = .ok (.iconst 0, 1) := by decide +kernel
theorem dX4_addNumber_35 : decode cX4_addNumber 35 = .ok (.istore 5, 2) := by decide +kernel
theorem dX4_addNumber_37 : decode cX4_addNumber 37 = .ok (.iload 5, 2) := by decide +kernel
theorem dX4_addNumber_39 : decode cX4_addNumber 39 = .ok (.bipush 18, 2) := by decide +kernel
theorem dX4_addNumber_41 : decode cX4_addNumber 41 = .ok (.if_icmp .ge 36, 3) := by decide +kernel
theorem dX4_addNumber_44 : decode cX4_addNumber 44 = .ok (.lload_n 3, 1) := by decide +kernel
theorem dX4_addNumber_45 : decode cX4_addNumber 45 = .ok (.lconst 0, 1) := by decide +kernel
theorem dX4_addNumber_46 : decode cX4_addNumber 46 = .ok (.lcmp, 1) := by decide +kernel
theorem dX4_addNumber_47 : decode cX4_addNumber 47 = .ok (.ifCond .le 30, 3) := by decide +kernel
theorem dX4_addNumber_50 : decode cX4_addNumber 50 = .ok (.aload_n 0, 1) := by decide +kernel
theorem dX4_addNumber_51 : decode cX4_addNumber 51 = .ok (.bipush 48, 2) := by decide +kernel
theorem dX4_addNumber_53 : decode cX4_addNumber 53 = .ok (.lload_n 1, 1) := by decide +kernel
theorem dX4_addNumber_54 : decode cX4_addNumber 54 = .ok (.lload_n 3, 1) := by decide +kernel
theorem dX4_addNumber_55 : decode cX4_addNumber 55 = .ok (.ldiv, 1) := by decide +kernel
theorem dX4_addNumber_56 : decode cX4_addNumber 56 = .ok (.ldc2_w 31, 3) := by decide +kernel
theorem dX4_addNumber_59 : decode cX4_addNumber 59 = .ok (.lrem, 1) := by decide +kernel
theorem dX4_addNumber_60 : decode cX4_addNumber 60 = .ok (.l2i, 1) := by decide +kernel
theorem dX4_addNumber_61 : decode cX4_addNumber 61 = .ok (.iadd, 1) := by decide +kernel
theorem dX4_addNumber_62 : decode cX4_addNumber 62 = .ok (.invokevirtual 27, 3) := by decide +kernel
theorem dX4_addNumber_65 : decode cX4_addNumber 65 = .ok (.lload_n 3, 1) := by decide +kernel
theorem dX4_addNumber_66 : decode cX4_addNumber 66 = .ok (.ldc2_w 31, 3) := by decide +kernel
theorem dX4_addNumber_69 : decode cX4_addNumber 69 = .ok (.ldiv, 1) := by decide +kernel
theorem dX4_addNumber_70 : decode cX4_addNumber 70 = .ok (.lstore_n 3, 1) := by decide +kernel
theorem dX4_addNumber_71 : decode cX4_addNumber 71 = .ok (.iinc 5 1, 3) := by decide +kernel
theorem dX4_addNumber_74 : decode cX4_addNumber 74 = .ok (.goto (-37), 3) := by decide +kernel
theorem dX4_addNumber_77 : decode cX4_addNumber 77 = .ok (.return_, 1) := by decide +kernel
theorem dX4_addLetter_0 : decode cX4_addLetter 0 = .ok (.aload_n 0, 1) := by decide +kernel
theorem dX4_addLetter_1 : decode cX4_addLetter 1 = .ok (.getfield 7, 3) := by decide +kernel
theorem dX4_addLetter_4 : decode cX4_addLetter 4 = .ok (.bipush 120, 2) := by decide +kernel
theorem dX4_addLetter_6 : decode cX4_addLetter 6 = .ok (.if_icmp .ge 23, 3) := by decide +kernel
theorem dX4_addLetter_9 : decode cX4_addLetter 9 = .ok (.aload_n 0, 1) := by decide +kernel
theorem dX4_addLetter_10 : decode cX4_addLetter 10 = .ok (.getfield 13, 3) := by decide +kernel
theorem dX4_addLetter_13 : decode cX4_addLetter 13 = .ok (.aload_n 0, 1) := by decide +kernel
theorem dX4_addLetter_14 : decode cX4_addLetter 14 = .ok (.getfield 7, 3) := by decide +kernel
theorem dX4_addLetter_17 : decode cX4_addLetter 17 = .ok (.iload_n 1, 1) := by decide +kernel
theorem dX4_addLetter_18 : decode cX4_addLetter 18 = .ok (.iastore, 1) := by decide +kernel
theorem dX4_addLetter_19 : decode cX4_addLetter 19 = .ok (.aload_n 0, 1) := by decide +kernel
theorem dX4_addLetter_20 : decode cX4_addLetter 20 = .ok (.dup, 1) := by decide +kernel
theorem dX4_addLetter_21 : decode cX4_addLetter 21 = .ok (.getfield 7, 3) := by decide +kernel
theorem dX4_addLetter_24 : decode cX4_addLetter 24 = .ok (.iconst 1, 1) := by decide +kernel
