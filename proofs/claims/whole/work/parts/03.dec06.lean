theorem dX9_list_56 : decode cX9_list 56 = .ok (.iload_n 3, 1) := by decide +kernel
theorem dX9_list_57 : decode cX9_list 57 = .ok (.iadd, 1) := by decide +kernel
theorem dX9_list_58 : decode cX9_list 58 = .ok (.lconst 0, 1) := by decide +kernel
theorem dX9_list_59 : decode cX9_list 59 = .ok (.lastore, 1) := by decide +kernel
theorem dX9_list_60 : decode cX9_list 60 = .ok (.iinc 3 1, 3) := by decide +kernel
theorem dX9_list_63 : decode cX9_list 63 = .ok (.goto (-21), 3) := by decide +kernel
theorem dX9_list_66 : decode cX9_list 66 = .ok (.iconst 1, 1) := by decide +kernel
theorem dX9_list_67 : decode cX9_list 67 = .ok (.ireturn, 1) := by decide +kernel
theorem dX9_notPlace_0 : decode cX9_notPlace 0 = .ok (.aload_n 0, 1) := by decide +kernel
theorem dX9_notPlace_1 : decode cX9_notPlace 1 = .ok (.getfield 101, 3) := by decide +kernel
theorem dX9_notPlace_4 : decode cX9_notPlace 4 = .ok (.iload_n 1, 1) := by decide +kernel
theorem dX9_notPlace_5 : decode cX9_notPlace 5 = .ok (.iaload, 1) := by decide +kernel
theorem dX9_notPlace_6 : decode cX9_notPlace 6 = .ok (.ifCond .ge 8, 3) := by decide +kernel
theorem dX9_notPlace_9 : decode cX9_notPlace 9 = .ok (.bipush (-11), 2) := by decide +kernel
theorem dX9_notPlace_11 : decode cX9_notPlace 11 = .ok (.goto 27, 3) := by decide +kernel
theorem dX9_notPlace_14 : decode cX9_notPlace 14 = .ok (.iload_n 2, 1) := by decide +kernel
theorem dX9_notPlace_15 : decode cX9_notPlace 15 = .ok (.i2l, 1) := by decide +kernel
theorem dX9_notPlace_16 : decode cX9_notPlace 16 = .ok (.lconst 0, 1) := by decide +kernel
theorem dX9_notPlace_17 : decode cX9_notPlace 17 = .ok (.aload_n 0, 1) := by decide +kernel
theorem dX9_notPlace_18 : decode cX9_notPlace 18 = .ok (.getfield 101, 3) := by decide +kernel
theorem dX9_notPlace_21 : decode cX9_notPlace 21 = .ok (.iload_n 1, 1) := by decide +kernel
theorem dX9_notPlace_22 : decode cX9_notPlace 22 = .ok (.iaload, 1) := by decide +kernel
theorem dX9_notPlace_23 : decode cX9_notPlace 23 = .ok (.iconst 1, 1) := by decide +kernel
theorem dX9_notPlace_24 : decode cX9_notPlace 24 = .ok (.isub, 1) := by decide +kernel
theorem dX9_notPlace_25 : decode cX9_notPlace 25 = .ok (.i2l, 1) := by decide +kernel
theorem dX9_notPlace_26 : decode cX9_notPlace 26 = .ok (.invokestatic 116, 3) := by decide +kernel
theorem dX9_notPlace_29 : decode cX9_notPlace 29 = .ok (.ifCond .eq 7, 3) := by decide +kernel
theorem dX9_notPlace_32 : decode cX9_notPlace 32 = .ok (.iconst 0, 1) := by decide +kernel
theorem dX9_notPlace_33 : decode cX9_notPlace 33 = .ok (.goto 5, 3) := by decide +kernel
theorem dX9_notPlace_36 : decode cX9_notPlace 36 = .ok (.bipush (-13), 2) := by decide +kernel
theorem dX9_notPlace_38 : decode cX9_notPlace 38 = .ok (.ireturn, 1) := by decide +kernel
theorem dX9_put_0 : decode cX9_put 0 = .ok (.iload_n 1, 1) := by decide +kernel
theorem dX9_put_1 : decode cX9_put 1 = .ok (.invokestatic 366, 3) := by decide +kernel
theorem dX9_put_4 : decode cX9_put 4 = .ok (.ifCond .ne 9, 3) := by decide +kernel
theorem dX9_put_7 : decode cX9_put 7 = .ok (.aload_n 0, 1) := by decide +kernel
theorem dX9_put_8 : decode cX9_put 8 = .ok (.iconst (-1), 1) := by decide +kernel
theorem dX9_put_9 : decode cX9_put 9 = .ok (.invokevirtual 125, 3) := by decide +kernel
theorem dX9_put_12 : decode cX9_put 12 = .ok (.ireturn, 1) := by decide +kernel
theorem dX9_put_13 : decode cX9_put 13 = .ok (.aload_n 0, 1) := by decide +kernel
theorem dX9_put_14 : decode cX9_put 14 = .ok (.iload_n 1, 1) := by decide +kernel
theorem dX9_put_15 : decode cX9_put 15 = .ok (.iload_n 2, 1) := by decide +kernel
theorem dX9_put_16 : decode cX9_put 16 = .ok (.invokevirtual 369, 3) := by decide +kernel
theorem dX9_put_19 : decode cX9_put 19 = .ok (.istore 5, 2) := by decide +kernel
theorem dX9_put_21 : decode cX9_put 21 = .ok (.iload 5, 2) := by decide +kernel
theorem dX9_put_23 : decode cX9_put 23 = .ok (.ifCond .eq 6, 3) := by decide +kernel
theorem dX9_put_26 : decode cX9_put 26 = .ok (.iload 5, 2) := by decide +kernel
theorem dX9_put_28 : decode cX9_put 28 = .ok (.ireturn, 1) := by decide +kernel
theorem dX9_put_29 : decode cX9_put 29 = .ok (.aload_n 0, 1) := by decide +kernel
theorem dX9_put_30 : decode cX9_put 30 = .ok (.getfield 98, 3) := by decide +kernel
theorem dX9_put_33 : decode cX9_put 33 = .ok (.bipush 20, 2) := by decide +kernel
theorem dX9_put_35 : decode cX9_put 35 = .ok (.iload_n 1, 1) := by decide +kernel
theorem dX9_put_36 : decode cX9_put 36 = .ok (.imul, 1) := by decide +kernel
theorem dX9_put_37 : decode cX9_put 37 = .ok (.iload_n 2, 1) := by decide +kernel
theorem dX9_put_38 : decode cX9_put 38 = .ok (.iadd, 1) := by decide +kernel
theorem dX9_put_39 : decode cX9_put 39 = .ok (.lload_n 3, 1) := by decide +kernel
theorem dX9_put_40 : decode cX9_put 40 = .ok (.lastore, 1) := by decide +kernel
theorem dX9_put_41 : decode cX9_put 41 = .ok (.iconst 1, 1) := by decide +kernel
theorem dX9_put_42 : decode cX9_put 42 = .ok (.ireturn, 1) := by decide +kernel
theorem dX9_look_0 : decode cX9_look 0 = .ok (.iload_n 1, 1) := by decide +kernel
theorem dX9_look_1 : decode cX9_look 1 = .ok (.invokestatic 366, 3) := by decide +kernel
theorem dX9_look_4 : decode cX9_look 4 = .ok (.ifCond .ne 9, 3) := by decide +kernel
theorem dX9_look_7 : decode cX9_look 7 = .ok (.aload_n 0, 1) := by decide +kernel
theorem dX9_look_8 : decode cX9_look 8 = .ok (.iconst (-1), 1) := by decide +kernel
theorem dX9_look_9 : decode cX9_look 9 = .ok (.invokevirtual 272, 3) := by decide +kernel
theorem dX9_look_12 : decode cX9_look 12 = .ok (.lreturn, 1) := by decide +kernel
theorem dX9_look_13 : decode cX9_look 13 = .ok (.aload_n 0, 1) := by decide +kernel
theorem dX9_look_14 : decode cX9_look 14 = .ok (.iload_n 1, 1) := by decide +kernel
theorem dX9_look_15 : decode cX9_look 15 = .ok (.iload_n 2, 1) := by decide +kernel
theorem dX9_look_16 : decode cX9_look 16 = .ok (.invokevirtual 369, 3) := by decide +kernel
theorem dX9_look_19 : decode cX9_look 19 = .ok (.istore_n 3, 1) := by decide +kernel
theorem dX9_look_20 : decode cX9_look 20 = .ok (.iload_n 3, 1) := by decide +kernel
theorem dX9_look_21 : decode cX9_look 21 = .ok (.ifCond .eq 12, 3) := by decide +kernel
theorem dX9_look_24 : decode cX9_look 24 = .ok (.ldc2_w 123, 3) := by decide +kernel
theorem dX9_look_27 : decode cX9_look 27 = .ok (.iload_n 3, 1) := by decide +kernel
theorem dX9_look_28 : decode cX9_look 28 = .ok (.i2l, 1) := by decide +kernel
theorem dX9_look_29 : decode cX9_look 29 = .ok (.lsub, 1) := by decide +kernel
theorem dX9_look_30 : decode cX9_look 30 = .ok (.goto 14, 3) := by decide +kernel
theorem dX9_look_33 : decode cX9_look 33 = .ok (.aload_n 0, 1) := by decide +kernel
theorem dX9_look_34 : decode cX9_look 34 = .ok (.getfield 98, 3) := by decide +kernel
theorem dX9_look_37 : decode cX9_look 37 = .ok (.bipush 20, 2) := by decide +kernel
theorem dX9_look_39 : decode cX9_look 39 = .ok (.iload_n 1, 1) := by decide +kernel
theorem dX9_look_40 : decode cX9_look 40 = .ok (.imul, 1) := by decide +kernel
theorem dX9_look_41 : decode cX9_look 41 = .ok (.iload_n 2, 1) := by decide +kernel
theorem dX9_look_42 : decode cX9_look 42 = .ok (.iadd, 1) := by decide +kernel
theorem dX9_look_43 : decode cX9_look 43 = .ok (.laload, 1) := by decide +kernel
theorem dX9_look_44 : decode cX9_look 44 = .ok (.lreturn, 1) := by decide +kernel
theorem dX9_isLaid_0 : decode cX9_isLaid 0 = .ok (.lload_n 2, 1) := by decide +kernel
theorem dX9_isLaid_1 : decode cX9_isLaid 1 = .ok (.lconst 0, 1) := by decide +kernel
theorem dX9_isLaid_2 : decode cX9_isLaid 2 = .ok (.aload_n 0, 1) := by decide +kernel
theorem dX9_isLaid_3 : decode cX9_isLaid 3 = .ok (.getfield 101, 3) := by decide +kernel
theorem dX9_isLaid_6 : decode cX9_isLaid 6 = .ok (.iload_n 1, 1) := by decide +kernel
theorem dX9_isLaid_7 : decode cX9_isLaid 7 = .ok (.iaload, 1) := by decide +kernel
theorem dX9_isLaid_8 : decode cX9_isLaid 8 = .ok (.iconst 1, 1) := by decide +kernel
theorem dX9_isLaid_9 : decode cX9_isLaid 9 = .ok (.isub, 1) := by decide +kernel
theorem dX9_isLaid_10 : decode cX9_isLaid 10 = .ok (.i2l, 1) := by decide +kernel
theorem dX9_isLaid_11 : decode cX9_isLaid 11 = .ok (.invokestatic 116, 3) := by decide +kernel
theorem dX9_isLaid_14 : decode cX9_isLaid 14 = .ok (.ifCond .ne 5, 3) := by decide +kernel
theorem dX9_isLaid_17 : decode cX9_isLaid 17 = .ok (.iconst 0, 1) := by decide +kernel
theorem dX9_isLaid_18 : decode cX9_isLaid 18 = .ok (.ireturn, 1) := by decide +kernel
theorem dX9_isLaid_19 : decode cX9_isLaid 19 = .ok (.aload_n 0, 1) := by decide +kernel
theorem dX9_isLaid_20 : decode cX9_isLaid 20 = .ok (.getfield 98, 3) := by decide +kernel
theorem dX9_isLaid_23 : decode cX9_isLaid 23 = .ok (.bipush 20, 2) := by decide +kernel
theorem dX9_isLaid_25 : decode cX9_isLaid 25 = .ok (.iload_n 1, 1) := by decide +kernel
theorem dX9_isLaid_26 : decode cX9_isLaid 26 = .ok (.imul, 1) := by decide +kernel
theorem dX9_isLaid_27 : decode cX9_isLaid 27 = .ok (.lload_n 2, 1) := by decide +kernel
theorem dX9_isLaid_28 : decode cX9_isLaid 28 = .ok (.l2i, 1) := by decide +kernel
theorem dX9_isLaid_29 : decode cX9_isLaid 29 = .ok (.iadd, 1) := by decide +kernel
theorem dX9_isLaid_30 : decode cX9_isLaid 30 = .ok (.lload 4, 2) := by decide +kernel
theorem dX9_isLaid_32 : decode cX9_isLaid 32 = .ok (.lastore, 1) := by decide +kernel
theorem dX9_isLaid_33 : decode cX9_isLaid 33 = .ok (.iconst 1, 1) := by decide +kernel
theorem dX9_isLaid_34 : decode cX9_isLaid 34 = .ok (.ireturn, 1) := by decide +kernel
theorem dX9_findTold_0 : decode cX9_findTold 0 = .ok (.aload_n 0, 1) := by decide +kernel
theorem dX9_findTold_1 : decode cX9_findTold 1 = .ok (.iload_n 1, 1) := by decide +kernel
theorem dX9_findTold_2 : decode cX9_findTold 2 = .ok (.iload_n 2, 1) := by decide +kernel
theorem dX9_findTold_3 : decode cX9_findTold 3 = .ok (.iconst 0, 1) := by decide +kernel
theorem dX9_findTold_4 : decode cX9_findTold 4 = .ok (.invokevirtual 275, 3) := by decide +kernel
theorem dX9_findTold_7 : decode cX9_findTold 7 = .ok (.ifCond .ne 14, 3) := by decide +kernel
theorem dX9_findTold_10 : decode cX9_findTold 10 = .ok (.aload_n 0, 1) := by decide +kernel
theorem dX9_findTold_11 : decode cX9_findTold 11 = .ok (.lconst 1, 1) := by decide +kernel
theorem dX9_findTold_12 : decode cX9_findTold 12 = .ok (.putfield 248, 3) := by decide +kernel
theorem dX9_findTold_15 : decode cX9_findTold 15 = .ok (.aload_n 0, 1) := by decide +kernel
theorem dX9_findTold_16 : decode cX9_findTold 16 = .ok (.lconst 0, 1) := by decide +kernel
theorem dX9_findTold_17 : decode cX9_findTold 17 = .ok (.putfield 252, 3) := by decide +kernel
theorem dX9_findTold_20 : decode cX9_findTold 20 = .ok (.return_, 1) := by decide +kernel
theorem dX9_findTold_21 : decode cX9_findTold 21 = .ok (.aload_n 0, 1) := by decide +kernel
theorem dX9_findTold_22 : decode cX9_findTold 22 = .ok (.getfield 248, 3) := by decide +kernel
theorem dX9_findTold_25 : decode cX9_findTold 25 = .ok (.aload_n 0, 1) := by decide +kernel
theorem dX9_findTold_26 : decode cX9_findTold 26 = .ok (.getfield 252, 3) := by decide +kernel
theorem dX9_findTold_29 : decode cX9_findTold 29 = .ok (.invokestatic 265, 3) := by decide +kernel
theorem dX9_findTold_32 : decode cX9_findTold 32 = .ok (.lstore_n 3, 1) := by decide +kernel
theorem dX9_findTold_33 : decode cX9_findTold 33 = .ok (.aload_n 0, 1) := by decide +kernel
theorem dX9_findTold_34 : decode cX9_findTold 34 = .ok (.dup, 1) := by decide +kernel
theorem dX9_findTold_35 : decode cX9_findTold 35 = .ok (.getfield 248, 3) := by decide +kernel
theorem dX9_findTold_38 : decode cX9_findTold 38 = .ok (.lload_n 3, 1) := by decide +kernel
theorem dX9_findTold_39 : decode cX9_findTold 39 = .ok (.ldiv, 1) := by decide +kernel
theorem dX9_findTold_40 : decode cX9_findTold 40 = .ok (.putfield 248, 3) := by decide +kernel
theorem dX9_findTold_43 : decode cX9_findTold 43 = .ok (.aload_n 0, 1) := by decide +kernel
theorem dX9_findTold_44 : decode cX9_findTold 44 = .ok (.dup, 1) := by decide +kernel
theorem dX9_findTold_45 : decode cX9_findTold 45 = .ok (.getfield 252, 3) := by decide +kernel
theorem dX9_findTold_48 : decode cX9_findTold 48 = .ok (.lload_n 3, 1) := by decide +kernel
theorem dX9_findTold_49 : decode cX9_findTold 49 = .ok (.ldiv, 1) := by decide +kernel
theorem dX9_findTold_50 : decode cX9_findTold 50 = .ok (.putfield 252, 3) := by decide +kernel
theorem dX9_findTold_53 : decode cX9_findTold 53 = .ok (.return_, 1) := by decide +kernel
theorem dX9_lays_0 : decode cX9_lays 0 = .ok (.iload_n 1, 1) := by decide +kernel
theorem dX9_lays_1 : decode cX9_lays 1 = .ok (.invokestatic 366, 3) := by decide +kernel
theorem dX9_lays_4 : decode cX9_lays 4 = .ok (.ifCond .eq 11, 3) := by decide +kernel
theorem dX9_lays_7 : decode cX9_lays 7 = .ok (.aload_n 0, 1) := by decide +kernel
theorem dX9_lays_8 : decode cX9_lays 8 = .ok (.iload_n 2, 1) := by decide +kernel
theorem dX9_lays_9 : decode cX9_lays 9 = .ok (.invokevirtual 141, 3) := by decide +kernel
theorem dX9_lays_12 : decode cX9_lays 12 = .ok (.ifCond .ne 9, 3) := by decide +kernel
theorem dX9_lays_15 : decode cX9_lays 15 = .ok (.aload_n 0, 1) := by decide +kernel
theorem dX9_lays_16 : decode cX9_lays 16 = .ok (.iconst (-1), 1) := by decide +kernel
theorem dX9_lays_17 : decode cX9_lays 17 = .ok (.invokevirtual 125, 3) := by decide +kernel
theorem dX9_lays_20 : decode cX9_lays 20 = .ok (.ireturn, 1) := by decide +kernel
theorem dX9_lays_21 : decode cX9_lays 21 = .ok (.aload_n 0, 1) := by decide +kernel
theorem dX9_lays_22 : decode cX9_lays 22 = .ok (.getfield 101, 3) := by decide +kernel
theorem dX9_lays_25 : decode cX9_lays 25 = .ok (.iload_n 1, 1) := by decide +kernel
theorem dX9_lays_26 : decode cX9_lays 26 = .ok (.iaload, 1) := by decide +kernel
theorem dX9_lays_27 : decode cX9_lays 27 = .ok (.ifCond .ge 6, 3) := by decide +kernel
theorem dX9_lays_30 : decode cX9_lays 30 = .ok (.bipush (-11), 2) := by decide +kernel
theorem dX9_lays_32 : decode cX9_lays 32 = .ok (.ireturn, 1) := by decide +kernel
theorem dX9_lays_33 : decode cX9_lays 33 = .ok (.aload_n 0, 1) := by decide +kernel
theorem dX9_lays_34 : decode cX9_lays 34 = .ok (.invokevirtual 230, 3) := by decide +kernel
theorem dX9_lays_37 : decode cX9_lays 37 = .ok (.iconst 0, 1) := by decide +kernel
theorem dX9_lays_38 : decode cX9_lays 38 = .ok (.istore 4, 2) := by decide +kernel
theorem dX9_lays_40 : decode cX9_lays 40 = .ok (.iload 4, 2) := by decide +kernel
theorem dX9_lays_42 : decode cX9_lays 42 = .ok (.aload_n 0, 1) := by decide +kernel
theorem dX9_lays_43 : decode cX9_lays 43 = .ok (.getfield 7, 3) := by decide +kernel
theorem dX9_lays_46 : decode cX9_lays 46 = .ok (.if_icmp .ge 61, 3) := by decide +kernel
theorem dX9_lays_49 : decode cX9_lays 49 = .ok (.aload_n 0, 1) := by decide +kernel
theorem dX9_lays_50 : decode cX9_lays 50 = .ok (.iload 4, 2) := by decide +kernel
theorem dX9_lays_52 : decode cX9_lays 52 = .ok (.iload_n 2, 1) := by decide +kernel
theorem dX9_lays_53 : decode cX9_lays 53 = .ok (.invokevirtual 372, 3) := by decide +kernel
theorem dX9_lays_56 : decode cX9_lays 56 = .ok (.aload_n 0, 1) := by decide +kernel
theorem dX9_lays_57 : decode cX9_lays 57 = .ok (.iload_n 1, 1) := by decide +kernel
theorem dX9_lays_58 : decode cX9_lays 58 = .ok (.iload_n 3, 1) := by decide +kernel
theorem dX9_lays_59 : decode cX9_lays 59 = .ok (.i2l, 1) := by decide +kernel
theorem dX9_lays_60 : decode cX9_lays 60 = .ok (.iconst 2, 1) := by decide +kernel
theorem dX9_lays_61 : decode cX9_lays 61 = .ok (.iload 4, 2) := by decide +kernel
theorem dX9_lays_63 : decode cX9_lays 63 = .ok (.imul, 1) := by decide +kernel
theorem dX9_lays_64 : decode cX9_lays 64 = .ok (.i2l, 1) := by decide +kernel
theorem dX9_lays_65 : decode cX9_lays 65 = .ok (.ladd, 1) := by decide +kernel
theorem dX9_lays_66 : decode cX9_lays 66 = .ok (.aload_n 0, 1) := by decide +kernel
theorem dX9_lays_67 : decode cX9_lays 67 = .ok (.getfield 248, 3) := by decide +kernel
theorem dX9_lays_70 : decode cX9_lays 70 = .ok (.invokevirtual 375, 3) := by decide +kernel
theorem dX9_lays_73 : decode cX9_lays 73 = .ok (.ifCond .eq 25, 3) := by decide +kernel
theorem dX9_lays_76 : decode cX9_lays 76 = .ok (.aload_n 0, 1) := by decide +kernel
theorem dX9_lays_77 : decode cX9_lays 77 = .ok (.iload_n 1, 1) := by decide +kernel
theorem dX9_lays_78 : decode cX9_lays 78 = .ok (.iload_n 3, 1) := by decide +kernel
theorem dX9_lays_79 : decode cX9_lays 79 = .ok (.i2l, 1) := by decide +kernel
theorem dX9_lays_80 : decode cX9_lays 80 = .ok (.iconst 2, 1) := by decide +kernel
theorem dX9_lays_81 : decode cX9_lays 81 = .ok (.iload 4, 2) := by decide +kernel
theorem dX9_lays_83 : decode cX9_lays 83 = .ok (.imul, 1) := by decide +kernel
theorem dX9_lays_84 : decode cX9_lays 84 = .ok (.i2l, 1) := by decide +kernel
theorem dX9_lays_85 : decode cX9_lays 85 = .ok (.ladd, 1) := by decide +kernel
theorem dX9_lays_86 : decode cX9_lays 86 = .ok (.lconst 1, 1) := by decide +kernel
theorem dX9_lays_87 : decode cX9_lays 87 = .ok (.ladd, 1) := by decide +kernel
theorem dX9_lays_88 : decode cX9_lays 88 = .ok (.aload_n 0, 1) := by decide +kernel
theorem dX9_lays_89 : decode cX9_lays 89 = .ok (.getfield 252, 3) := by decide +kernel
theorem dX9_lays_92 : decode cX9_lays 92 = .ok (.invokevirtual 375, 3) := by decide +kernel
theorem dX9_lays_95 : decode cX9_lays 95 = .ok (.ifCond .ne 6, 3) := by decide +kernel
theorem dX9_lays_98 : decode cX9_lays 98 = .ok (.bipush (-13), 2) := by decide +kernel
theorem dX9_lays_100 : decode cX9_lays 100 = .ok (.ireturn, 1) := by decide +kernel
theorem dX9_lays_101 : decode cX9_lays 101 = .ok (.iinc 4 1, 3) := by decide +kernel
theorem dX9_lays_104 : decode cX9_lays 104 = .ok (.goto (-64), 3) := by decide +kernel
theorem dX9_lays_107 : decode cX9_lays 107 = .ok (.aload_n 0, 1) := by decide +kernel
theorem dX9_lays_108 : decode cX9_lays 108 = .ok (.getfield 7, 3) := by decide +kernel
theorem dX9_lays_111 : decode cX9_lays 111 = .ok (.ireturn, 1) := by decide +kernel
theorem dX9_judge_0 : decode cX9_judge 0 = .ok (.iload_n 1, 1) := by decide +kernel
theorem dX9_judge_1 : decode cX9_judge 1 = .ok (.invokestatic 366, 3) := by decide +kernel
theorem dX9_judge_4 : decode cX9_judge 4 = .ok (.ifCond .eq 11, 3) := by decide +kernel
theorem dX9_judge_7 : decode cX9_judge 7 = .ok (.aload_n 0, 1) := by decide +kernel
theorem dX9_judge_8 : decode cX9_judge 8 = .ok (.iload_n 2, 1) := by decide +kernel
theorem dX9_judge_9 : decode cX9_judge 9 = .ok (.invokevirtual 141, 3) := by decide +kernel
theorem dX9_judge_12 : decode cX9_judge 12 = .ok (.ifCond .ne 9, 3) := by decide +kernel
theorem dX9_judge_15 : decode cX9_judge 15 = .ok (.aload_n 0, 1) := by decide +kernel
theorem dX9_judge_16 : decode cX9_judge 16 = .ok (.iconst (-1), 1) := by decide +kernel
theorem dX9_judge_17 : decode cX9_judge 17 = .ok (.invokevirtual 125, 3) := by decide +kernel
theorem dX9_judge_20 : decode cX9_judge 20 = .ok (.ireturn, 1) := by decide +kernel
theorem dX9_judge_21 : decode cX9_judge 21 = .ok (.aload_n 0, 1) := by decide +kernel
theorem dX9_judge_22 : decode cX9_judge 22 = .ok (.getfield 101, 3) := by decide +kernel
theorem dX9_judge_25 : decode cX9_judge 25 = .ok (.iload_n 1, 1) := by decide +kernel
theorem dX9_judge_26 : decode cX9_judge 26 = .ok (.iaload, 1) := by decide +kernel
theorem dX9_judge_27 : decode cX9_judge 27 = .ok (.ifCond .ge 6, 3) := by decide +kernel
theorem dX9_judge_30 : decode cX9_judge 30 = .ok (.bipush (-11), 2) := by decide +kernel
theorem dX9_judge_32 : decode cX9_judge 32 = .ok (.ireturn, 1) := by decide +kernel
theorem dX9_judge_33 : decode cX9_judge 33 = .ok (.aload_n 0, 1) := by decide +kernel
theorem dX9_judge_34 : decode cX9_judge 34 = .ok (.invokevirtual 230, 3) := by decide +kernel
theorem dX9_judge_37 : decode cX9_judge 37 = .ok (.iconst 0, 1) := by decide +kernel
theorem dX9_judge_38 : decode cX9_judge 38 = .ok (.istore_n 3, 1) := by decide +kernel
theorem dX9_judge_39 : decode cX9_judge 39 = .ok (.iload_n 3, 1) := by decide +kernel
theorem dX9_judge_40 : decode cX9_judge 40 = .ok (.aload_n 0, 1) := by decide +kernel
theorem dX9_judge_41 : decode cX9_judge 41 = .ok (.getfield 7, 3) := by decide +kernel
theorem dX9_judge_44 : decode cX9_judge 44 = .ok (.if_icmp .ge 88, 3) := by decide +kernel
theorem dX9_judge_47 : decode cX9_judge 47 = .ok (.aload_n 0, 1) := by decide +kernel
theorem dX9_judge_48 : decode cX9_judge 48 = .ok (.iload_n 3, 1) := by decide +kernel
theorem dX9_judge_49 : decode cX9_judge 49 = .ok (.iload_n 2, 1) := by decide +kernel
theorem dX9_judge_50 : decode cX9_judge 50 = .ok (.invokevirtual 372, 3) := by decide +kernel
theorem dX9_judge_53 : decode cX9_judge 53 = .ok (.iconst 0, 1) := by decide +kernel
theorem dX9_judge_54 : decode cX9_judge 54 = .ok (.istore 4, 2) := by decide +kernel
theorem dX9_judge_56 : decode cX9_judge 56 = .ok (.iload 4, 2) := by decide +kernel
theorem dX9_judge_58 : decode cX9_judge 58 = .ok (.iconst 2, 1) := by decide +kernel
theorem dX9_judge_59 : decode cX9_judge 59 = .ok (.if_icmp .ge 67, 3) := by decide +kernel
theorem dX9_judge_62 : decode cX9_judge 62 = .ok (.iconst 2, 1) := by decide +kernel
theorem dX9_judge_63 : decode cX9_judge 63 = .ok (.iload_n 3, 1) := by decide +kernel
theorem dX9_judge_64 : decode cX9_judge 64 = .ok (.imul, 1) := by decide +kernel
theorem dX9_judge_65 : decode cX9_judge 65 = .ok (.iload 4, 2) := by decide +kernel
theorem dX9_judge_67 : decode cX9_judge 67 = .ok (.iadd, 1) := by decide +kernel
theorem dX9_judge_68 : decode cX9_judge 68 = .ok (.aload_n 0, 1) := by decide +kernel
theorem dX9_judge_69 : decode cX9_judge 69 = .ok (.getfield 101, 3) := by decide +kernel
theorem dX9_judge_72 : decode cX9_judge 72 = .ok (.iload_n 1, 1) := by decide +kernel
theorem dX9_judge_73 : decode cX9_judge 73 = .ok (.iaload, 1) := by decide +kernel
theorem dX9_judge_74 : decode cX9_judge 74 = .ok (.if_icmp .lt 8, 3) := by decide +kernel
theorem dX9_judge_77 : decode cX9_judge 77 = .ok (.bipush 100, 2) := by decide +kernel
theorem dX9_judge_79 : decode cX9_judge 79 = .ok (.iload_n 3, 1) := by decide +kernel
theorem dX9_judge_80 : decode cX9_judge 80 = .ok (.iadd, 1) := by decide +kernel
theorem dX9_judge_81 : decode cX9_judge 81 = .ok (.ireturn, 1) := by decide +kernel
theorem dX9_judge_82 : decode cX9_judge 82 = .ok (.aload_n 0, 1) := by decide +kernel
theorem dX9_judge_83 : decode cX9_judge 83 = .ok (.getfield 98, 3) := by decide +kernel
theorem dX9_judge_86 : decode cX9_judge 86 = .ok (.bipush 20, 2) := by decide +kernel
theorem dX9_judge_88 : decode cX9_judge 88 = .ok (.iload_n 1, 1) := by decide +kernel
theorem dX9_judge_89 : decode cX9_judge 89 = .ok (.imul, 1) := by decide +kernel
theorem dX9_judge_90 : decode cX9_judge 90 = .ok (.iconst 2, 1) := by decide +kernel
theorem dX9_judge_91 : decode cX9_judge 91 = .ok (.iload_n 3, 1) := by decide +kernel
theorem dX9_judge_92 : decode cX9_judge 92 = .ok (.imul, 1) := by decide +kernel
theorem dX9_judge_93 : decode cX9_judge 93 = .ok (.iadd, 1) := by decide +kernel
theorem dX9_judge_94 : decode cX9_judge 94 = .ok (.iload 4, 2) := by decide +kernel
theorem dX9_judge_96 : decode cX9_judge 96 = .ok (.iadd, 1) := by decide +kernel
theorem dX9_judge_97 : decode cX9_judge 97 = .ok (.laload, 1) := by decide +kernel
theorem dX9_judge_98 : decode cX9_judge 98 = .ok (.iload 4, 2) := by decide +kernel
theorem dX9_judge_100 : decode cX9_judge 100 = .ok (.ifCond .ne 10, 3) := by decide +kernel
theorem dX9_judge_103 : decode cX9_judge 103 = .ok (.aload_n 0, 1) := by decide +kernel
theorem dX9_judge_104 : decode cX9_judge 104 = .ok (.getfield 248, 3) := by decide +kernel
theorem dX9_judge_107 : decode cX9_judge 107 = .ok (.goto 7, 3) := by decide +kernel
theorem dX9_judge_110 : decode cX9_judge 110 = .ok (.aload_n 0, 1) := by decide +kernel
theorem dX9_judge_111 : decode cX9_judge 111 = .ok (.getfield 252, 3) := by decide +kernel
theorem dX9_judge_114 : decode cX9_judge 114 = .ok (.lcmp, 1) := by decide +kernel
theorem dX9_judge_115 : decode cX9_judge 115 = .ok (.ifCond .eq 5, 3) := by decide +kernel
theorem dX9_judge_118 : decode cX9_judge 118 = .ok (.iload_n 3, 1) := by decide +kernel
theorem dX9_judge_119 : decode cX9_judge 119 = .ok (.ireturn, 1) := by decide +kernel
theorem dX9_judge_120 : decode cX9_judge 120 = .ok (.iinc 4 1, 3) := by decide +kernel
theorem dX9_judge_123 : decode cX9_judge 123 = .ok (.goto (-67), 3) := by decide +kernel
theorem dX9_judge_126 : decode cX9_judge 126 = .ok (.iinc 3 1, 3) := by decide +kernel
theorem dX9_judge_129 : decode cX9_judge 129 = .ok (.goto (-90), 3) := by decide +kernel
theorem dX9_judge_132 : decode cX9_judge 132 = .ok (.bipush (-9), 2) := by decide +kernel
theorem dX9_judge_134 : decode cX9_judge 134 = .ok (.ireturn, 1) := by decide +kernel
theorem dX9_isSlot_0 : decode cX9_isSlot 0 = .ok (.iload_n 0, 1) := by decide +kernel
theorem dX9_isSlot_1 : decode cX9_isSlot 1 = .ok (.i2l, 1) := by decide +kernel
theorem dX9_isSlot_2 : decode cX9_isSlot 2 = .ok (.lconst 0, 1) := by decide +kernel
theorem dX9_isSlot_3 : decode cX9_isSlot 3 = .ok (.ldc2_w 364, 3) := by decide +kernel
theorem dX9_isSlot_6 : decode cX9_isSlot 6 = .ok (.invokestatic 116, 3) := by decide +kernel
theorem dX9_isSlot_9 : decode cX9_isSlot 9 = .ok (.ireturn, 1) := by decide +kernel
theorem dX9_slot_0 : decode cX9_slot 0 = .ok (.iload_n 1, 1) := by decide +kernel
theorem dX9_slot_1 : decode cX9_slot 1 = .ok (.invokestatic 379, 3) := by decide +kernel
theorem dX9_slot_4 : decode cX9_slot 4 = .ok (.ifCond .ne 9, 3) := by decide +kernel
theorem dX9_slot_7 : decode cX9_slot 7 = .ok (.aload_n 0, 1) := by decide +kernel
theorem dX9_slot_8 : decode cX9_slot 8 = .ok (.iconst (-1), 1) := by decide +kernel
theorem dX9_slot_9 : decode cX9_slot 9 = .ok (.invokevirtual 125, 3) := by decide +kernel
theorem dX9_slot_12 : decode cX9_slot 12 = .ok (.ireturn, 1) := by decide +kernel
theorem dX9_slot_13 : decode cX9_slot 13 = .ok (.iload_n 2, 1) := by decide +kernel
theorem dX9_slot_14 : decode cX9_slot 14 = .ok (.i2l, 1) := by decide +kernel
theorem dX9_slot_15 : decode cX9_slot 15 = .ok (.lconst 0, 1) := by decide +kernel
theorem dX9_slot_16 : decode cX9_slot 16 = .ok (.ldc2_w 148, 3) := by decide +kernel
theorem dX9_slot_19 : decode cX9_slot 19 = .ok (.invokestatic 116, 3) := by decide +kernel
theorem dX9_slot_22 : decode cX9_slot 22 = .ok (.ifCond .ne 10, 3) := by decide +kernel
theorem dX9_slot_25 : decode cX9_slot 25 = .ok (.aload_n 0, 1) := by decide +kernel
theorem dX9_slot_26 : decode cX9_slot 26 = .ok (.bipush (-2), 2) := by decide +kernel
theorem dX9_slot_28 : decode cX9_slot 28 = .ok (.invokevirtual 125, 3) := by decide +kernel
theorem dX9_slot_31 : decode cX9_slot 31 = .ok (.ireturn, 1) := by decide +kernel
theorem dX9_slot_32 : decode cX9_slot 32 = .ok (.iload_n 3, 1) := by decide +kernel
theorem dX9_slot_33 : decode cX9_slot 33 = .ok (.bipush 9, 2) := by decide +kernel
theorem dX9_slot_35 : decode cX9_slot 35 = .ok (.if_icmp .le 10, 3) := by decide +kernel
theorem dX9_slot_38 : decode cX9_slot 38 = .ok (.aload_n 0, 1) := by decide +kernel
theorem dX9_slot_39 : decode cX9_slot 39 = .ok (.bipush (-6), 2) := by decide +kernel
theorem dX9_slot_41 : decode cX9_slot 41 = .ok (.invokevirtual 125, 3) := by decide +kernel
theorem dX9_slot_44 : decode cX9_slot 44 = .ok (.ireturn, 1) := by decide +kernel
theorem dX9_slot_45 : decode cX9_slot 45 = .ok (.iload_n 3, 1) := by decide +kernel
theorem dX9_slot_46 : decode cX9_slot 46 = .ok (.ifCond .ge 6, 3) := by decide +kernel
theorem dX9_slot_49 : decode cX9_slot 49 = .ok (.bipush (-14), 2) := by decide +kernel
theorem dX9_slot_51 : decode cX9_slot 51 = .ok (.ireturn, 1) := by decide +kernel
theorem dX9_slot_52 : decode cX9_slot 52 = .ok (.aload_n 0, 1) := by decide +kernel
theorem dX9_slot_53 : decode cX9_slot 53 = .ok (.getfield 104, 3) := by decide +kernel
theorem dX9_slot_56 : decode cX9_slot 56 = .ok (.iload_n 1, 1) := by decide +kernel
theorem dX9_slot_57 : decode cX9_slot 57 = .ok (.iload_n 2, 1) := by decide +kernel
theorem dX9_slot_58 : decode cX9_slot 58 = .ok (.iastore, 1) := by decide +kernel
theorem dX9_slot_59 : decode cX9_slot 59 = .ok (.aload_n 0, 1) := by decide +kernel
theorem dX9_slot_60 : decode cX9_slot 60 = .ok (.getfield 107, 3) := by decide +kernel
theorem dX9_slot_63 : decode cX9_slot 63 = .ok (.iload_n 1, 1) := by decide +kernel
theorem dX9_slot_64 : decode cX9_slot 64 = .ok (.iload_n 3, 1) := by decide +kernel
theorem dX9_slot_65 : decode cX9_slot 65 = .ok (.iastore, 1) := by decide +kernel
theorem dX9_slot_66 : decode cX9_slot 66 = .ok (.iconst 0, 1) := by decide +kernel
theorem dX9_slot_67 : decode cX9_slot 67 = .ok (.istore 4, 2) := by decide +kernel
theorem dX9_slot_69 : decode cX9_slot 69 = .ok (.iload 4, 2) := by decide +kernel
theorem dX9_slot_71 : decode cX9_slot 71 = .ok (.bipush 9, 2) := by decide +kernel
theorem dX9_slot_73 : decode cX9_slot 73 = .ok (.if_icmp .ge 22, 3) := by decide +kernel
theorem dX9_slot_76 : decode cX9_slot 76 = .ok (.aload_n 0, 1) := by decide +kernel
theorem dX9_slot_77 : decode cX9_slot 77 = .ok (.getfield 110, 3) := by decide +kernel
theorem dX9_slot_80 : decode cX9_slot 80 = .ok (.bipush 9, 2) := by decide +kernel
theorem dX9_slot_82 : decode cX9_slot 82 = .ok (.iload_n 1, 1) := by decide +kernel
theorem dX9_slot_83 : decode cX9_slot 83 = .ok (.imul, 1) := by decide +kernel
theorem dX9_slot_84 : decode cX9_slot 84 = .ok (.iload 4, 2) := by decide +kernel
theorem dX9_slot_86 : decode cX9_slot 86 = .ok (.iadd, 1) := by decide +kernel
theorem dX9_slot_87 : decode cX9_slot 87 = .ok (.iconst (-1), 1) := by decide +kernel
theorem dX9_slot_88 : decode cX9_slot 88 = .ok (.iastore, 1) := by decide +kernel
theorem dX9_slot_89 : decode cX9_slot 89 = .ok (.iinc 4 1, 3) := by decide +kernel
theorem dX9_slot_92 : decode cX9_slot 92 = .ok (.goto (-23), 3) := by decide +kernel
theorem dX9_slot_95 : decode cX9_slot 95 = .ok (.iconst 1, 1) := by decide +kernel
theorem dX9_slot_96 : decode cX9_slot 96 = .ok (.ireturn, 1) := by decide +kernel
theorem dX9_isUnder_0 : decode cX9_isUnder 0 = .ok (.iload_n 1, 1) := by decide +kernel
theorem dX9_isUnder_1 : decode cX9_isUnder 1 = .ok (.ifCond .eq 28, 3) := by decide +kernel
theorem dX9_isUnder_4 : decode cX9_isUnder 4 = .ok (.iload_n 0, 1) := by decide +kernel
theorem dX9_isUnder_5 : decode cX9_isUnder 5 = .ok (.iload_n 1, 1) := by decide +kernel
theorem dX9_isUnder_6 : decode cX9_isUnder 6 = .ok (.if_icmp .eq 23, 3) := by decide +kernel
theorem dX9_isUnder_9 : decode cX9_isUnder 9 = .ok (.iload_n 1, 1) := by decide +kernel
theorem dX9_isUnder_10 : decode cX9_isUnder 10 = .ok (.iconst 1, 1) := by decide +kernel
theorem dX9_isUnder_11 : decode cX9_isUnder 11 = .ok (.if_icmp .ne 8, 3) := by decide +kernel
theorem dX9_isUnder_14 : decode cX9_isUnder 14 = .ok (.iload_n 0, 1) := by decide +kernel
theorem dX9_isUnder_15 : decode cX9_isUnder 15 = .ok (.iconst 4, 1) := by decide +kernel
theorem dX9_isUnder_16 : decode cX9_isUnder 16 = .ok (.if_icmp .eq 13, 3) := by decide +kernel
theorem dX9_isUnder_19 : decode cX9_isUnder 19 = .ok (.iload_n 1, 1) := by decide +kernel
theorem dX9_isUnder_20 : decode cX9_isUnder 20 = .ok (.iconst 2, 1) := by decide +kernel
theorem dX9_isUnder_21 : decode cX9_isUnder 21 = .ok (.if_icmp .ne 12, 3) := by decide +kernel
theorem dX9_isUnder_24 : decode cX9_isUnder 24 = .ok (.iload_n 0, 1) := by decide +kernel
theorem dX9_isUnder_25 : decode cX9_isUnder 25 = .ok (.iconst 3, 1) := by decide +kernel
theorem dX9_isUnder_26 : decode cX9_isUnder 26 = .ok (.if_icmp .ne 7, 3) := by decide +kernel
theorem dX9_isUnder_29 : decode cX9_isUnder 29 = .ok (.iconst 1, 1) := by decide +kernel
theorem dX9_isUnder_30 : decode cX9_isUnder 30 = .ok (.goto 4, 3) := by decide +kernel
theorem dX9_isUnder_33 : decode cX9_isUnder 33 = .ok (.iconst 0, 1) := by decide +kernel
theorem dX9_isUnder_34 : decode cX9_isUnder 34 = .ok (.ireturn, 1) := by decide +kernel
theorem dX9_notSlotted_0 : decode cX9_notSlotted 0 = .ok (.aload_n 0, 1) := by decide +kernel
theorem dX9_notSlotted_1 : decode cX9_notSlotted 1 = .ok (.getfield 107, 3) := by decide +kernel
theorem dX9_notSlotted_4 : decode cX9_notSlotted 4 = .ok (.iload_n 1, 1) := by decide +kernel
theorem dX9_notSlotted_5 : decode cX9_notSlotted 5 = .ok (.iaload, 1) := by decide +kernel
theorem dX9_notSlotted_6 : decode cX9_notSlotted 6 = .ok (.ifCond .ge 8, 3) := by decide +kernel
theorem dX9_notSlotted_9 : decode cX9_notSlotted 9 = .ok (.bipush (-11), 2) := by decide +kernel
theorem dX9_notSlotted_11 : decode cX9_notSlotted 11 = .ok (.goto 27, 3) := by decide +kernel
theorem dX9_notSlotted_14 : decode cX9_notSlotted 14 = .ok (.iload_n 2, 1) := by decide +kernel
theorem dX9_notSlotted_15 : decode cX9_notSlotted 15 = .ok (.i2l, 1) := by decide +kernel
theorem dX9_notSlotted_16 : decode cX9_notSlotted 16 = .ok (.lconst 0, 1) := by decide +kernel
theorem dX9_notSlotted_17 : decode cX9_notSlotted 17 = .ok (.aload_n 0, 1) := by decide +kernel
theorem dX9_notSlotted_18 : decode cX9_notSlotted 18 = .ok (.getfield 107, 3) := by decide +kernel
theorem dX9_notSlotted_21 : decode cX9_notSlotted 21 = .ok (.iload_n 1, 1) := by decide +kernel
theorem dX9_notSlotted_22 : decode cX9_notSlotted 22 = .ok (.iaload, 1) := by decide +kernel
theorem dX9_notSlotted_23 : decode cX9_notSlotted 23 = .ok (.iconst 1, 1) := by decide +kernel
theorem dX9_notSlotted_24 : decode cX9_notSlotted 24 = .ok (.isub, 1) := by decide +kernel
theorem dX9_notSlotted_25 : decode cX9_notSlotted 25 = .ok (.i2l, 1) := by decide +kernel
theorem dX9_notSlotted_26 : decode cX9_notSlotted 26 = .ok (.invokestatic 116, 3) := by decide +kernel
theorem dX9_notSlotted_29 : decode cX9_notSlotted 29 = .ok (.ifCond .eq 7, 3) := by decide +kernel
theorem dX9_notSlotted_32 : decode cX9_notSlotted 32 = .ok (.iconst 0, 1) := by decide +kernel
theorem dX9_notSlotted_33 : decode cX9_notSlotted 33 = .ok (.goto 5, 3) := by decide +kernel
theorem dX9_notSlotted_36 : decode cX9_notSlotted 36 = .ok (.bipush (-13), 2) := by decide +kernel
theorem dX9_notSlotted_38 : decode cX9_notSlotted 38 = .ok (.ireturn, 1) := by decide +kernel
theorem dX9_slots_0 : decode cX9_slots 0 = .ok (.iload_n 1, 1) := by decide +kernel
theorem dX9_slots_1 : decode cX9_slots 1 = .ok (.invokestatic 379, 3) := by decide +kernel
theorem dX9_slots_4 : decode cX9_slots 4 = .ok (.ifCond .eq 16, 3) := by decide +kernel
theorem dX9_slots_7 : decode cX9_slots 7 = .ok (.iload_n 3, 1) := by decide +kernel
theorem dX9_slots_8 : decode cX9_slots 8 = .ok (.iconst (-1), 1) := by decide +kernel
theorem dX9_slots_9 : decode cX9_slots 9 = .ok (.if_icmp .eq 17, 3) := by decide +kernel
theorem dX9_slots_12 : decode cX9_slots 12 = .ok (.aload_n 0, 1) := by decide +kernel
theorem dX9_slots_13 : decode cX9_slots 13 = .ok (.iload_n 3, 1) := by decide +kernel
theorem dX9_slots_14 : decode cX9_slots 14 = .ok (.invokevirtual 145, 3) := by decide +kernel
theorem dX9_slots_17 : decode cX9_slots 17 = .ok (.ifCond .ne 9, 3) := by decide +kernel
theorem dX9_slots_20 : decode cX9_slots 20 = .ok (.aload_n 0, 1) := by decide +kernel
theorem dX9_slots_21 : decode cX9_slots 21 = .ok (.iconst (-1), 1) := by decide +kernel
theorem dX9_slots_22 : decode cX9_slots 22 = .ok (.invokevirtual 125, 3) := by decide +kernel
theorem dX9_slots_25 : decode cX9_slots 25 = .ok (.ireturn, 1) := by decide +kernel
theorem dX9_slots_26 : decode cX9_slots 26 = .ok (.aload_n 0, 1) := by decide +kernel
theorem dX9_slots_27 : decode cX9_slots 27 = .ok (.iload_n 1, 1) := by decide +kernel
theorem dX9_slots_28 : decode cX9_slots 28 = .ok (.iload_n 2, 1) := by decide +kernel
theorem dX9_slots_29 : decode cX9_slots 29 = .ok (.invokevirtual 382, 3) := by decide +kernel
theorem dX9_slots_32 : decode cX9_slots 32 = .ok (.istore 4, 2) := by decide +kernel
theorem dX9_slots_34 : decode cX9_slots 34 = .ok (.iload 4, 2) := by decide +kernel
theorem dX9_slots_36 : decode cX9_slots 36 = .ok (.ifCond .eq 6, 3) := by decide +kernel
theorem dX9_slots_39 : decode cX9_slots 39 = .ok (.iload 4, 2) := by decide +kernel
theorem dX9_slots_41 : decode cX9_slots 41 = .ok (.ireturn, 1) := by decide +kernel
theorem dX9_slots_42 : decode cX9_slots 42 = .ok (.iload_n 3, 1) := by decide +kernel
theorem dX9_slots_43 : decode cX9_slots 43 = .ok (.ifCond .lt 24, 3) := by decide +kernel
theorem dX9_slots_46 : decode cX9_slots 46 = .ok (.aload_n 0, 1) := by decide +kernel
theorem dX9_slots_47 : decode cX9_slots 47 = .ok (.getfield 20, 3) := by decide +kernel
theorem dX9_slots_50 : decode cX9_slots 50 = .ok (.iload_n 3, 1) := by decide +kernel
theorem dX9_slots_51 : decode cX9_slots 51 = .ok (.iaload, 1) := by decide +kernel
theorem dX9_slots_52 : decode cX9_slots 52 = .ok (.aload_n 0, 1) := by decide +kernel
theorem dX9_slots_53 : decode cX9_slots 53 = .ok (.getfield 104, 3) := by decide +kernel
theorem dX9_slots_56 : decode cX9_slots 56 = .ok (.iload_n 1, 1) := by decide +kernel
theorem dX9_slots_57 : decode cX9_slots 57 = .ok (.iaload, 1) := by decide +kernel
theorem dX9_slots_58 : decode cX9_slots 58 = .ok (.invokestatic 385, 3) := by decide +kernel
theorem dX9_slots_61 : decode cX9_slots 61 = .ok (.ifCond .ne 6, 3) := by decide +kernel
theorem dX9_slots_64 : decode cX9_slots 64 = .ok (.bipush (-16), 2) := by decide +kernel
theorem dX9_slots_66 : decode cX9_slots 66 = .ok (.ireturn, 1) := by decide +kernel
theorem dX9_slots_67 : decode cX9_slots 67 = .ok (.aload_n 0, 1) := by decide +kernel
theorem dX9_slots_68 : decode cX9_slots 68 = .ok (.getfield 110, 3) := by decide +kernel
theorem dX9_slots_71 : decode cX9_slots 71 = .ok (.bipush 9, 2) := by decide +kernel
theorem dX9_slots_73 : decode cX9_slots 73 = .ok (.iload_n 1, 1) := by decide +kernel
theorem dX9_slots_74 : decode cX9_slots 74 = .ok (.imul, 1) := by decide +kernel
theorem dX9_slots_75 : decode cX9_slots 75 = .ok (.iload_n 2, 1) := by decide +kernel
theorem dX9_slots_76 : decode cX9_slots 76 = .ok (.iadd, 1) := by decide +kernel
theorem dX9_slots_77 : decode cX9_slots 77 = .ok (.iload_n 3, 1) := by decide +kernel
theorem dX9_slots_78 : decode cX9_slots 78 = .ok (.ifCond .ge 7, 3) := by decide +kernel
theorem dX9_slots_81 : decode cX9_slots 81 = .ok (.iconst (-1), 1) := by decide +kernel
theorem dX9_slots_82 : decode cX9_slots 82 = .ok (.goto 9, 3) := by decide +kernel
theorem dX9_slots_85 : decode cX9_slots 85 = .ok (.aload_n 0, 1) := by decide +kernel
theorem dX9_slots_86 : decode cX9_slots 86 = .ok (.getfield 20, 3) := by decide +kernel
theorem dX9_slots_89 : decode cX9_slots 89 = .ok (.iload_n 3, 1) := by decide +kernel
theorem dX9_slots_90 : decode cX9_slots 90 = .ok (.iaload, 1) := by decide +kernel
theorem dX9_slots_91 : decode cX9_slots 91 = .ok (.iastore, 1) := by decide +kernel
theorem dX9_slots_92 : decode cX9_slots 92 = .ok (.aload_n 0, 1) := by decide +kernel
theorem dX9_slots_93 : decode cX9_slots 93 = .ok (.getfield 113, 3) := by decide +kernel
theorem dX9_slots_96 : decode cX9_slots 96 = .ok (.bipush 9, 2) := by decide +kernel
theorem dX9_slots_98 : decode cX9_slots 98 = .ok (.iload_n 1, 1) := by decide +kernel
theorem dX9_slots_99 : decode cX9_slots 99 = .ok (.imul, 1) := by decide +kernel
theorem dX9_slots_100 : decode cX9_slots 100 = .ok (.iload_n 2, 1) := by decide +kernel
theorem dX9_slots_101 : decode cX9_slots 101 = .ok (.iadd, 1) := by decide +kernel
theorem dX9_slots_102 : decode cX9_slots 102 = .ok (.iload_n 3, 1) := by decide +kernel
theorem dX9_slots_103 : decode cX9_slots 103 = .ok (.ifCond .ge 7, 3) := by decide +kernel
theorem dX9_slots_106 : decode cX9_slots 106 = .ok (.iconst 0, 1) := by decide +kernel
theorem dX9_slots_107 : decode cX9_slots 107 = .ok (.goto 9, 3) := by decide +kernel
theorem dX9_slots_110 : decode cX9_slots 110 = .ok (.aload_n 0, 1) := by decide +kernel
theorem dX9_slots_111 : decode cX9_slots 111 = .ok (.getfield 23, 3) := by decide +kernel
theorem dX9_slots_114 : decode cX9_slots 114 = .ok (.iload_n 3, 1) := by decide +kernel
theorem dX9_slots_115 : decode cX9_slots 115 = .ok (.iaload, 1) := by decide +kernel
theorem dX9_slots_116 : decode cX9_slots 116 = .ok (.iastore, 1) := by decide +kernel
theorem dX9_slots_117 : decode cX9_slots 117 = .ok (.iconst 1, 1) := by decide +kernel
theorem dX9_slots_118 : decode cX9_slots 118 = .ok (.ireturn, 1) := by decide +kernel
theorem dX9_slotted_0 : decode cX9_slotted 0 = .ok (.iload_n 1, 1) := by decide +kernel
theorem dX9_slotted_1 : decode cX9_slotted 1 = .ok (.invokestatic 379, 3) := by decide +kernel
theorem dX9_slotted_4 : decode cX9_slotted 4 = .ok (.ifCond .ne 9, 3) := by decide +kernel
theorem dX9_slotted_7 : decode cX9_slotted 7 = .ok (.aload_n 0, 1) := by decide +kernel
theorem dX9_slotted_8 : decode cX9_slotted 8 = .ok (.iconst (-1), 1) := by decide +kernel
theorem dX9_slotted_9 : decode cX9_slotted 9 = .ok (.invokevirtual 125, 3) := by decide +kernel
theorem dX9_slotted_12 : decode cX9_slotted 12 = .ok (.ireturn, 1) := by decide +kernel
theorem dX9_slotted_13 : decode cX9_slotted 13 = .ok (.iload_n 3, 1) := by decide +kernel
theorem dX9_slotted_14 : decode cX9_slotted 14 = .ok (.iconst 1, 1) := by decide +kernel
theorem dX9_slotted_15 : decode cX9_slotted 15 = .ok (.if_icmp .ge 10, 3) := by decide +kernel
theorem dX9_slotted_18 : decode cX9_slotted 18 = .ok (.aload_n 0, 1) := by decide +kernel
theorem dX9_slotted_19 : decode cX9_slotted 19 = .ok (.bipush (-4), 2) := by decide +kernel
theorem dX9_slotted_21 : decode cX9_slotted 21 = .ok (.invokevirtual 125, 3) := by decide +kernel
theorem dX9_slotted_24 : decode cX9_slotted 24 = .ok (.ireturn, 1) := by decide +kernel
theorem dX9_slotted_25 : decode cX9_slotted 25 = .ok (.iload_n 3, 1) := by decide +kernel
theorem dX9_slotted_26 : decode cX9_slotted 26 = .ok (.bipush 9, 2) := by decide +kernel
theorem dX9_slotted_28 : decode cX9_slotted 28 = .ok (.if_icmp .le 10, 3) := by decide +kernel
theorem dX9_slotted_31 : decode cX9_slotted 31 = .ok (.aload_n 0, 1) := by decide +kernel
theorem dX9_slotted_32 : decode cX9_slotted 32 = .ok (.bipush (-6), 2) := by decide +kernel
theorem dX9_slotted_34 : decode cX9_slotted 34 = .ok (.invokevirtual 125, 3) := by decide +kernel
theorem dX9_slotted_37 : decode cX9_slotted 37 = .ok (.ireturn, 1) := by decide +kernel
theorem dX9_slotted_38 : decode cX9_slotted 38 = .ok (.aload_n 0, 1) := by decide +kernel
theorem dX9_slotted_39 : decode cX9_slotted 39 = .ok (.iload_n 1, 1) := by decide +kernel
theorem dX9_slotted_40 : decode cX9_slotted 40 = .ok (.iload_n 2, 1) := by decide +kernel
theorem dX9_slotted_41 : decode cX9_slotted 41 = .ok (.invokevirtual 382, 3) := by decide +kernel
theorem dX9_slotted_44 : decode cX9_slotted 44 = .ok (.istore 4, 2) := by decide +kernel
theorem dX9_slotted_46 : decode cX9_slotted 46 = .ok (.iload 4, 2) := by decide +kernel
theorem dX9_slotted_48 : decode cX9_slotted 48 = .ok (.ifCond .eq 6, 3) := by decide +kernel
theorem dX9_slotted_51 : decode cX9_slotted 51 = .ok (.iload 4, 2) := by decide +kernel
theorem dX9_slotted_53 : decode cX9_slotted 53 = .ok (.ireturn, 1) := by decide +kernel
theorem dX9_slotted_54 : decode cX9_slotted 54 = .ok (.aload_n 0, 1) := by decide +kernel
theorem dX9_slotted_55 : decode cX9_slotted 55 = .ok (.getfield 110, 3) := by decide +kernel
theorem dX9_slotted_58 : decode cX9_slotted 58 = .ok (.bipush 9, 2) := by decide +kernel
theorem dX9_slotted_60 : decode cX9_slotted 60 = .ok (.iload_n 1, 1) := by decide +kernel
theorem dX9_slotted_61 : decode cX9_slotted 61 = .ok (.imul, 1) := by decide +kernel
theorem dX9_slotted_62 : decode cX9_slotted 62 = .ok (.iload_n 2, 1) := by decide +kernel
theorem dX9_slotted_63 : decode cX9_slotted 63 = .ok (.iadd, 1) := by decide +kernel
theorem dX9_slotted_64 : decode cX9_slotted 64 = .ok (.iaload, 1) := by decide +kernel
theorem dX9_slotted_65 : decode cX9_slotted 65 = .ok (.istore 5, 2) := by decide +kernel
theorem dX9_slotted_67 : decode cX9_slotted 67 = .ok (.iload 5, 2) := by decide +kernel
theorem dX9_slotted_69 : decode cX9_slotted 69 = .ok (.ifCond .ge 8, 3) := by decide +kernel
theorem dX9_slotted_72 : decode cX9_slotted 72 = .ok (.bipush (-9), 2) := by decide +kernel
theorem dX9_slotted_74 : decode cX9_slotted 74 = .ok (.goto 20, 3) := by decide +kernel
theorem dX9_slotted_77 : decode cX9_slotted 77 = .ok (.iload 5, 2) := by decide +kernel
theorem dX9_slotted_79 : decode cX9_slotted 79 = .ok (.aload_n 0, 1) := by decide +kernel
theorem dX9_slotted_80 : decode cX9_slotted 80 = .ok (.getfield 113, 3) := by decide +kernel
theorem dX9_slotted_83 : decode cX9_slotted 83 = .ok (.bipush 9, 2) := by decide +kernel
theorem dX9_slotted_85 : decode cX9_slotted 85 = .ok (.iload_n 1, 1) := by decide +kernel
theorem dX9_slotted_86 : decode cX9_slotted 86 = .ok (.imul, 1) := by decide +kernel
theorem dX9_slotted_87 : decode cX9_slotted 87 = .ok (.iload_n 2, 1) := by decide +kernel
theorem dX9_slotted_88 : decode cX9_slotted 88 = .ok (.iadd, 1) := by decide +kernel
theorem dX9_slotted_89 : decode cX9_slotted 89 = .ok (.iaload, 1) := by decide +kernel
theorem dX9_slotted_90 : decode cX9_slotted 90 = .ok (.iload_n 3, 1) := by decide +kernel
theorem dX9_slotted_91 : decode cX9_slotted 91 = .ok (.invokestatic 129, 3) := by decide +kernel
theorem dX9_slotted_94 : decode cX9_slotted 94 = .ok (.ireturn, 1) := by decide +kernel
theorem dX9_like_0 : decode cX9_like 0 = .ok (.iload_n 1, 1) := by decide +kernel
theorem dX9_like_1 : decode cX9_like 1 = .ok (.invokestatic 379, 3) := by decide +kernel
theorem dX9_like_4 : decode cX9_like 4 = .ok (.ifCond .eq 10, 3) := by decide +kernel
theorem dX9_like_7 : decode cX9_like 7 = .ok (.iload_n 2, 1) := by decide +kernel
theorem dX9_like_8 : decode cX9_like 8 = .ok (.invokestatic 379, 3) := by decide +kernel
theorem dX9_like_11 : decode cX9_like 11 = .ok (.ifCond .ne 9, 3) := by decide +kernel
theorem dX9_like_14 : decode cX9_like 14 = .ok (.aload_n 0, 1) := by decide +kernel
theorem dX9_like_15 : decode cX9_like 15 = .ok (.iconst (-1), 1) := by decide +kernel
theorem dX9_like_16 : decode cX9_like 16 = .ok (.invokevirtual 125, 3) := by decide +kernel
theorem dX9_like_19 : decode cX9_like 19 = .ok (.ireturn, 1) := by decide +kernel
theorem dX9_like_20 : decode cX9_like 20 = .ok (.aload_n 0, 1) := by decide +kernel
theorem dX9_like_21 : decode cX9_like 21 = .ok (.getfield 107, 3) := by decide +kernel
theorem dX9_like_24 : decode cX9_like 24 = .ok (.iload_n 2, 1) := by decide +kernel
theorem dX9_like_25 : decode cX9_like 25 = .ok (.iaload, 1) := by decide +kernel
theorem dX9_like_26 : decode cX9_like 26 = .ok (.ifCond .ge 6, 3) := by decide +kernel
theorem dX9_like_29 : decode cX9_like 29 = .ok (.bipush (-11), 2) := by decide +kernel
theorem dX9_like_31 : decode cX9_like 31 = .ok (.ireturn, 1) := by decide +kernel
theorem dX9_like_32 : decode cX9_like 32 = .ok (.aload_n 0, 1) := by decide +kernel
theorem dX9_like_33 : decode cX9_like 33 = .ok (.getfield 104, 3) := by decide +kernel
theorem dX9_like_36 : decode cX9_like 36 = .ok (.iload_n 1, 1) := by decide +kernel
theorem dX9_like_37 : decode cX9_like 37 = .ok (.aload_n 0, 1) := by decide +kernel
theorem dX9_like_38 : decode cX9_like 38 = .ok (.getfield 104, 3) := by decide +kernel
theorem dX9_like_41 : decode cX9_like 41 = .ok (.iload_n 2, 1) := by decide +kernel
theorem dX9_like_42 : decode cX9_like 42 = .ok (.iaload, 1) := by decide +kernel
theorem dX9_like_43 : decode cX9_like 43 = .ok (.iastore, 1) := by decide +kernel
theorem dX9_like_44 : decode cX9_like 44 = .ok (.aload_n 0, 1) := by decide +kernel
theorem dX9_like_45 : decode cX9_like 45 = .ok (.getfield 107, 3) := by decide +kernel
theorem dX9_like_48 : decode cX9_like 48 = .ok (.iload_n 1, 1) := by decide +kernel
theorem dX9_like_49 : decode cX9_like 49 = .ok (.aload_n 0, 1) := by decide +kernel
theorem dX9_like_50 : decode cX9_like 50 = .ok (.getfield 107, 3) := by decide +kernel
theorem dX9_like_53 : decode cX9_like 53 = .ok (.iload_n 2, 1) := by decide +kernel
theorem dX9_like_54 : decode cX9_like 54 = .ok (.iaload, 1) := by decide +kernel
theorem dX9_like_55 : decode cX9_like 55 = .ok (.iastore, 1) := by decide +kernel
theorem dX9_like_56 : decode cX9_like 56 = .ok (.iconst 0, 1) := by decide +kernel
theorem dX9_like_57 : decode cX9_like 57 = .ok (.istore_n 3, 1) := by decide +kernel
theorem dX9_like_58 : decode cX9_like 58 = .ok (.iload_n 3, 1) := by decide +kernel
theorem dX9_like_59 : decode cX9_like 59 = .ok (.bipush 9, 2) := by decide +kernel
theorem dX9_like_61 : decode cX9_like 61 = .ok (.if_icmp .ge 53, 3) := by decide +kernel
theorem dX9_like_64 : decode cX9_like 64 = .ok (.aload_n 0, 1) := by decide +kernel
theorem dX9_like_65 : decode cX9_like 65 = .ok (.getfield 110, 3) := by decide +kernel
theorem dX9_like_68 : decode cX9_like 68 = .ok (.bipush 9, 2) := by decide +kernel
theorem dX9_like_70 : decode cX9_like 70 = .ok (.iload_n 1, 1) := by decide +kernel
theorem dX9_like_71 : decode cX9_like 71 = .ok (.imul, 1) := by decide +kernel
theorem dX9_like_72 : decode cX9_like 72 = .ok (.iload_n 3, 1) := by decide +kernel
theorem dX9_like_73 : decode cX9_like 73 = .ok (.iadd, 1) := by decide +kernel
theorem dX9_like_74 : decode cX9_like 74 = .ok (.aload_n 0, 1) := by decide +kernel
theorem dX9_like_75 : decode cX9_like 75 = .ok (.getfield 110, 3) := by decide +kernel
theorem dX9_like_78 : decode cX9_like 78 = .ok (.bipush 9, 2) := by decide +kernel
theorem dX9_like_80 : decode cX9_like 80 = .ok (.iload_n 2, 1) := by decide +kernel
theorem dX9_like_81 : decode cX9_like 81 = .ok (.imul, 1) := by decide +kernel
theorem dX9_like_82 : decode cX9_like 82 = .ok (.iload_n 3, 1) := by decide +kernel
theorem dX9_like_83 : decode cX9_like 83 = .ok (.iadd, 1) := by decide +kernel
theorem dX9_like_84 : decode cX9_like 84 = .ok (.iaload, 1) := by decide +kernel
theorem dX9_like_85 : decode cX9_like 85 = .ok (.iastore, 1) := by decide +kernel
theorem dX9_like_86 : decode cX9_like 86 = .ok (.aload_n 0, 1) := by decide +kernel
theorem dX9_like_87 : decode cX9_like 87 = .ok (.getfield 113, 3) := by decide +kernel
theorem dX9_like_90 : decode cX9_like 90 = .ok (.bipush 9, 2) := by decide +kernel
theorem dX9_like_92 : decode cX9_like 92 = .ok (.iload_n 1, 1) := by decide +kernel
theorem dX9_like_93 : decode cX9_like 93 = .ok (.imul, 1) := by decide +kernel
theorem dX9_like_94 : decode cX9_like 94 = .ok (.iload_n 3, 1) := by decide +kernel
theorem dX9_like_95 : decode cX9_like 95 = .ok (.iadd, 1) := by decide +kernel
theorem dX9_like_96 : decode cX9_like 96 = .ok (.aload_n 0, 1) := by decide +kernel
theorem dX9_like_97 : decode cX9_like 97 = .ok (.getfield 113, 3) := by decide +kernel
theorem dX9_like_100 : decode cX9_like 100 = .ok (.bipush 9, 2) := by decide +kernel
theorem dX9_like_102 : decode cX9_like 102 = .ok (.iload_n 2, 1) := by decide +kernel
theorem dX9_like_103 : decode cX9_like 103 = .ok (.imul, 1) := by decide +kernel
theorem dX9_like_104 : decode cX9_like 104 = .ok (.iload_n 3, 1) := by decide +kernel
theorem dX9_like_105 : decode cX9_like 105 = .ok (.iadd, 1) := by decide +kernel
theorem dX9_like_106 : decode cX9_like 106 = .ok (.iaload, 1) := by decide +kernel
theorem dX9_like_107 : decode cX9_like 107 = .ok (.iastore, 1) := by decide +kernel
theorem dX9_like_108 : decode cX9_like 108 = .ok (.iinc 3 1, 3) := by decide +kernel
theorem dX9_like_111 : decode cX9_like 111 = .ok (.goto (-53), 3) := by decide +kernel
theorem dX9_like_114 : decode cX9_like 114 = .ok (.aload_n 0, 1) := by decide +kernel
theorem dX9_like_115 : decode cX9_like 115 = .ok (.getfield 107, 3) := by decide +kernel
theorem dX9_like_118 : decode cX9_like 118 = .ok (.iload_n 1, 1) := by decide +kernel
theorem dX9_like_119 : decode cX9_like 119 = .ok (.iaload, 1) := by decide +kernel
theorem dX9_like_120 : decode cX9_like 120 = .ok (.ireturn, 1) := by decide +kernel
theorem dX9_image_0 : decode cX9_image 0 = .ok (.aload_n 0, 1) := by decide +kernel
theorem dX9_image_1 : decode cX9_image 1 = .ok (.aload_n 0, 1) := by decide +kernel
theorem dX9_image_2 : decode cX9_image 2 = .ok (.getfield 54, 3) := by decide +kernel
theorem dX9_image_5 : decode cX9_image 5 = .ok (.invokevirtual 210, 3) := by decide +kernel
theorem dX9_image_8 : decode cX9_image 8 = .ok (.aload_n 0, 1) := by decide +kernel
theorem dX9_image_9 : decode cX9_image 9 = .ok (.iconst 1, 1) := by decide +kernel
theorem dX9_image_10 : decode cX9_image 10 = .ok (.putfield 388, 3) := by decide +kernel
theorem dX9_image_13 : decode cX9_image 13 = .ok (.aload_n 0, 1) := by decide +kernel
theorem dX9_image_14 : decode cX9_image 14 = .ok (.getfield 120, 3) := by decide +kernel
theorem dX9_image_17 : decode cX9_image 17 = .ok (.ireturn, 1) := by decide +kernel
theorem dX9_on_0 : decode cX9_on 0 = .ok (.aload_n 0, 1) := by decide +kernel
theorem dX9_on_1 : decode cX9_on 1 = .ok (.getfield 388, 3) := by decide +kernel
theorem dX9_on_4 : decode cX9_on 4 = .ok (.ifCond .ne 10, 3) := by decide +kernel
theorem dX9_on_7 : decode cX9_on 7 = .ok (.aload_n 0, 1) := by decide +kernel
theorem dX9_on_8 : decode cX9_on 8 = .ok (.bipush (-3), 2) := by decide +kernel
theorem dX9_on_10 : decode cX9_on 10 = .ok (.invokevirtual 125, 3) := by decide +kernel
theorem dX9_on_13 : decode cX9_on 13 = .ok (.ireturn, 1) := by decide +kernel
theorem dX9_on_14 : decode cX9_on 14 = .ok (.aload_n 0, 1) := by decide +kernel
theorem dX9_on_15 : decode cX9_on 15 = .ok (.aload_n 0, 1) := by decide +kernel
theorem dX9_on_16 : decode cX9_on 16 = .ok (.getfield 54, 3) := by decide +kernel
theorem dX9_on_19 : decode cX9_on 19 = .ok (.invokevirtual 217, 3) := by decide +kernel
theorem dX9_on_22 : decode cX9_on 22 = .ok (.aload_n 0, 1) := by decide +kernel
theorem dX9_on_23 : decode cX9_on 23 = .ok (.getfield 120, 3) := by decide +kernel
theorem dX9_on_26 : decode cX9_on 26 = .ok (.ireturn, 1) := by decide +kernel
theorem dX9_sets_0 : decode cX9_sets 0 = .ok (.aload_n 0, 1) := by decide +kernel
theorem dX9_sets_1 : decode cX9_sets 1 = .ok (.invokevirtual 230, 3) := by decide +kernel
theorem dX9_sets_4 : decode cX9_sets 4 = .ok (.iconst 1, 1) := by decide +kernel
theorem dX9_sets_5 : decode cX9_sets 5 = .ok (.aload_n 0, 1) := by decide +kernel
theorem dX9_sets_6 : decode cX9_sets 6 = .ok (.getfield 7, 3) := by decide +kernel
theorem dX9_sets_9 : decode cX9_sets 9 = .ok (.ishl, 1) := by decide +kernel
theorem dX9_sets_10 : decode cX9_sets 10 = .ok (.iconst 1, 1) := by decide +kernel
theorem dX9_sets_11 : decode cX9_sets 11 = .ok (.isub, 1) := by decide +kernel
theorem dX9_sets_12 : decode cX9_sets 12 = .ok (.istore_n 1, 1) := by decide +kernel
theorem dX9_sets_13 : decode cX9_sets 13 = .ok (.iconst 0, 1) := by decide +kernel
theorem dX9_sets_14 : decode cX9_sets 14 = .ok (.istore_n 2, 1) := by decide +kernel
theorem dX9_sets_15 : decode cX9_sets 15 = .ok (.iconst 0, 1) := by decide +kernel
theorem dX9_sets_16 : decode cX9_sets 16 = .ok (.istore_n 3, 1) := by decide +kernel
theorem dX9_sets_17 : decode cX9_sets 17 = .ok (.iload_n 3, 1) := by decide +kernel
theorem dX9_sets_18 : decode cX9_sets 18 = .ok (.aload_n 0, 1) := by decide +kernel
theorem dX9_sets_19 : decode cX9_sets 19 = .ok (.getfield 7, 3) := by decide +kernel
theorem dX9_sets_22 : decode cX9_sets 22 = .ok (.if_icmp .ge 33, 3) := by decide +kernel
theorem dX9_sets_25 : decode cX9_sets 25 = .ok (.iload_n 1, 1) := by decide +kernel
theorem dX9_sets_26 : decode cX9_sets 26 = .ok (.iload_n 3, 1) := by decide +kernel
theorem dX9_sets_27 : decode cX9_sets 27 = .ok (.invokestatic 226, 3) := by decide +kernel
theorem dX9_sets_30 : decode cX9_sets 30 = .ok (.ifCond .ne 6, 3) := by decide +kernel
theorem dX9_sets_33 : decode cX9_sets 33 = .ok (.goto 16, 3) := by decide +kernel
theorem dX9_sets_36 : decode cX9_sets 36 = .ok (.iload_n 1, 1) := by decide +kernel
theorem dX9_sets_37 : decode cX9_sets 37 = .ok (.aload_n 0, 1) := by decide +kernel
theorem dX9_sets_38 : decode cX9_sets 38 = .ok (.iload_n 3, 1) := by decide +kernel
theorem dX9_sets_39 : decode cX9_sets 39 = .ok (.invokevirtual 233, 3) := by decide +kernel
theorem dX9_sets_42 : decode cX9_sets 42 = .ok (.iconst (-1), 1) := by decide +kernel
theorem dX9_sets_43 : decode cX9_sets 43 = .ok (.ixor, 1) := by decide +kernel
theorem dX9_sets_44 : decode cX9_sets 44 = .ok (.iand, 1) := by decide +kernel
theorem dX9_sets_45 : decode cX9_sets 45 = .ok (.istore_n 1, 1) := by decide +kernel
theorem dX9_sets_46 : decode cX9_sets 46 = .ok (.iinc 2 1, 3) := by decide +kernel
theorem dX9_sets_49 : decode cX9_sets 49 = .ok (.iinc 3 1, 3) := by decide +kernel
theorem dX9_sets_52 : decode cX9_sets 52 = .ok (.goto (-35), 3) := by decide +kernel
theorem dX9_sets_55 : decode cX9_sets 55 = .ok (.iload_n 2, 1) := by decide +kernel
theorem dX9_sets_56 : decode cX9_sets 56 = .ok (.ireturn, 1) := by decide +kernel
theorem dX9_allWeights_0 : decode cX9_allWeights 0 = .ok (.iconst 0, 1) := by decide +kernel
theorem dX9_allWeights_1 : decode cX9_allWeights 1 = .ok (.istore_n 1, 1) := by decide +kernel
theorem dX9_allWeights_2 : decode cX9_allWeights 2 = .ok (.iconst 0, 1) := by decide +kernel
theorem dX9_allWeights_3 : decode cX9_allWeights 3 = .ok (.istore_n 2, 1) := by decide +kernel
theorem dX9_allWeights_4 : decode cX9_allWeights 4 = .ok (.iload_n 2, 1) := by decide +kernel
theorem dX9_allWeights_5 : decode cX9_allWeights 5 = .ok (.aload_n 0, 1) := by decide +kernel
theorem dX9_allWeights_6 : decode cX9_allWeights 6 = .ok (.getfield 120, 3) := by decide +kernel
theorem dX9_allWeights_9 : decode cX9_allWeights 9 = .ok (.if_icmp .ge 17, 3) := by decide +kernel
theorem dX9_allWeights_12 : decode cX9_allWeights 12 = .ok (.iload_n 1, 1) := by decide +kernel
theorem dX9_allWeights_13 : decode cX9_allWeights 13 = .ok (.aload_n 0, 1) := by decide +kernel
theorem dX9_allWeights_14 : decode cX9_allWeights 14 = .ok (.iload_n 2, 1) := by decide +kernel
theorem dX9_allWeights_15 : decode cX9_allWeights 15 = .ok (.invokevirtual 171, 3) := by decide +kernel
theorem dX9_allWeights_18 : decode cX9_allWeights 18 = .ok (.iadd, 1) := by decide +kernel
theorem dX9_allWeights_19 : decode cX9_allWeights 19 = .ok (.istore_n 1, 1) := by decide +kernel
theorem dX9_allWeights_20 : decode cX9_allWeights 20 = .ok (.iinc 2 1, 3) := by decide +kernel
theorem dX9_allWeights_23 : decode cX9_allWeights 23 = .ok (.goto (-19), 3) := by decide +kernel
theorem dX9_allWeights_26 : decode cX9_allWeights 26 = .ok (.iload_n 1, 1) := by decide +kernel
theorem dX9_allWeights_27 : decode cX9_allWeights 27 = .ok (.ireturn, 1) := by decide +kernel
theorem dX9_count_0 : decode cX9_count 0 = .ok (.iload_n 1, 1) := by decide +kernel
theorem dX9_count_1 : decode cX9_count 1 = .ok (.tableswitch 69 0 5 #[39, 44, 49, 54, 59, 64], 39) := by decide +kernel
theorem dX9_count_40 : decode cX9_count 40 = .ok (.aload_n 0, 1) := by decide +kernel
theorem dX9_count_41 : decode cX9_count 41 = .ok (.getfield 7, 3) := by decide +kernel
theorem dX9_count_44 : decode cX9_count 44 = .ok (.ireturn, 1) := by decide +kernel
theorem dX9_count_45 : decode cX9_count 45 = .ok (.aload_n 0, 1) := by decide +kernel
theorem dX9_count_46 : decode cX9_count 46 = .ok (.getfield 120, 3) := by decide +kernel
theorem dX9_count_49 : decode cX9_count 49 = .ok (.ireturn, 1) := by decide +kernel
theorem dX9_count_50 : decode cX9_count 50 = .ok (.aload_n 0, 1) := by decide +kernel
theorem dX9_count_51 : decode cX9_count 51 = .ok (.getfield 177, 3) := by decide +kernel
theorem dX9_count_54 : decode cX9_count 54 = .ok (.ireturn, 1) := by decide +kernel
theorem dX9_count_55 : decode cX9_count 55 = .ok (.aload_n 0, 1) := by decide +kernel
theorem dX9_count_56 : decode cX9_count 56 = .ok (.getfield 358, 3) := by decide +kernel
theorem dX9_count_59 : decode cX9_count 59 = .ok (.ireturn, 1) := by decide +kernel
theorem dX9_count_60 : decode cX9_count 60 = .ok (.aload_n 0, 1) := by decide +kernel
theorem dX9_count_61 : decode cX9_count 61 = .ok (.invokevirtual 392, 3) := by decide +kernel
theorem dX9_count_64 : decode cX9_count 64 = .ok (.ireturn, 1) := by decide +kernel
theorem dX9_count_65 : decode cX9_count 65 = .ok (.aload_n 0, 1) := by decide +kernel
theorem dX9_count_66 : decode cX9_count 66 = .ok (.invokevirtual 395, 3) := by decide +kernel
theorem dX9_count_69 : decode cX9_count 69 = .ok (.ireturn, 1) := by decide +kernel
theorem dX9_count_70 : decode cX9_count 70 = .ok (.iload_n 1, 1) := by decide +kernel
theorem dX9_count_71 : decode cX9_count 71 = .ok (.i2l, 1) := by decide +kernel
theorem dX9_count_72 : decode cX9_count 72 = .ok (.ldc2_w 398, 3) := by decide +kernel
theorem dX9_count_75 : decode cX9_count 75 = .ok (.ldc2_w 400, 3) := by decide +kernel
theorem dX9_count_78 : decode cX9_count 78 = .ok (.invokestatic 116, 3) := by decide +kernel
theorem dX9_count_81 : decode cX9_count 81 = .ok (.ifCond .eq 15, 3) := by decide +kernel
theorem dX9_count_84 : decode cX9_count 84 = .ok (.aload_n 0, 1) := by decide +kernel
theorem dX9_count_85 : decode cX9_count 85 = .ok (.getfield 32, 3) := by decide +kernel
theorem dX9_count_88 : decode cX9_count 88 = .ok (.iload_n 1, 1) := by decide +kernel
theorem dX9_count_89 : decode cX9_count 89 = .ok (.bipush 10, 2) := by decide +kernel
theorem dX9_count_91 : decode cX9_count 91 = .ok (.isub, 1) := by decide +kernel
theorem dX9_count_92 : decode cX9_count 92 = .ok (.iaload, 1) := by decide +kernel
theorem dX9_count_93 : decode cX9_count 93 = .ok (.goto 5, 3) := by decide +kernel
theorem dX9_count_96 : decode cX9_count 96 = .ok (.bipush (-9), 2) := by decide +kernel
theorem dX9_count_98 : decode cX9_count 98 = .ok (.ireturn, 1) := by decide +kernel
theorem dJxe99ae_isNaN_b9ae7_0 : decode cJxe99ae_isNaN_b9ae7 0 = .ok (.dload_n 0, 1) := by decide +kernel
theorem dJxe99ae_isNaN_b9ae7_1 : decode cJxe99ae_isNaN_b9ae7 1 = .ok (.dload_n 0, 1) := by decide +kernel
theorem dJxe99ae_isNaN_b9ae7_2 : decode cJxe99ae_isNaN_b9ae7 2 = .ok (.dcmp .l, 1) := by decide +kernel
theorem dJxe99ae_isNaN_b9ae7_3 : decode cJxe99ae_isNaN_b9ae7 3 = .ok (.ifCond .eq 7, 3) := by decide +kernel
theorem dJxe99ae_isNaN_b9ae7_6 : decode cJxe99ae_isNaN_b9ae7 6 = .ok (.iconst 1, 1) := by decide +kernel
theorem dJxe99ae_isNaN_b9ae7_7 : decode cJxe99ae_isNaN_b9ae7 7 = .ok (.goto 4, 3) := by decide +kernel
theorem dJxe99ae_isNaN_b9ae7_10 : decode cJxe99ae_isNaN_b9ae7 10 = .ok (.iconst 0, 1) := by decide +kernel
theorem dJxe99ae_isNaN_b9ae7_11 : decode cJxe99ae_isNaN_b9ae7 11 = .ok (.ireturn, 1) := by decide +kernel
theorem dJxe99ae_doubleToLongBits_ccdee_0 : decode cJxe99ae_doubleToLongBits_ccdee 0 = .ok (.dload_n 0, 1) := by decide +kernel
theorem dJxe99ae_doubleToLongBits_ccdee_1 : decode cJxe99ae_doubleToLongBits_ccdee 1 = .ok (.invokestatic 122, 3) := by decide +kernel
theorem dJxe99ae_doubleToLongBits_ccdee_4 : decode cJxe99ae_doubleToLongBits_ccdee 4 = .ok (.ifCond .ne 8, 3) := by decide +kernel
theorem dJxe99ae_doubleToLongBits_ccdee_7 : decode cJxe99ae_doubleToLongBits_ccdee 7 = .ok (.dload_n 0, 1) := by decide +kernel
theorem dJxe99ae_doubleToLongBits_ccdee_8 : decode cJxe99ae_doubleToLongBits_ccdee 8 = .ok (.invokestatic 134, 3) := by decide +kernel
theorem dJxe99ae_doubleToLongBits_ccdee_11 : decode cJxe99ae_doubleToLongBits_ccdee 11 = .ok (.lreturn, 1) := by decide +kernel
theorem dJxe99ae_doubleToLongBits_ccdee_12 : decode cJxe99ae_doubleToLongBits_ccdee 12 = .ok (.ldc2_w 137, 3) := by decide +kernel
theorem dJxe99ae_doubleToLongBits_ccdee_15 : decode cJxe99ae_doubleToLongBits_ccdee 15 = .ok (.lreturn, 1) := by decide +kernel
theorem dJ6_bitCount_0f7a4_0 : decode cJ6_bitCount_0f7a4 0 = .ok (.iload_n 0, 1) := by decide +kernel
theorem dJ6_bitCount_0f7a4_1 : decode cJ6_bitCount_0f7a4 1 = .ok (.iload_n 0, 1) := by decide +kernel
theorem dJ6_bitCount_0f7a4_2 : decode cJ6_bitCount_0f7a4 2 = .ok (.iconst 1, 1) := by decide +kernel
theorem dJ6_bitCount_0f7a4_3 : decode cJ6_bitCount_0f7a4 3 = .ok (.iushr, 1) := by decide +kernel
theorem dJ6_bitCount_0f7a4_4 : decode cJ6_bitCount_0f7a4 4 = .ok (.ldc_w 265, 3) := by decide +kernel
theorem dJ6_bitCount_0f7a4_7 : decode cJ6_bitCount_0f7a4 7 = .ok (.iand, 1) := by decide +kernel
theorem dJ6_bitCount_0f7a4_8 : decode cJ6_bitCount_0f7a4 8 = .ok (.isub, 1) := by decide +kernel
theorem dJ6_bitCount_0f7a4_9 : decode cJ6_bitCount_0f7a4 9 = .ok (.istore_n 0, 1) := by decide +kernel
theorem dJ6_bitCount_0f7a4_10 : decode cJ6_bitCount_0f7a4 10 = .ok (.iload_n 0, 1) := by decide +kernel
theorem dJ6_bitCount_0f7a4_11 : decode cJ6_bitCount_0f7a4 11 = .ok (.ldc_w 266, 3) := by decide +kernel
theorem dJ6_bitCount_0f7a4_14 : decode cJ6_bitCount_0f7a4 14 = .ok (.iand, 1) := by decide +kernel
theorem dJ6_bitCount_0f7a4_15 : decode cJ6_bitCount_0f7a4 15 = .ok (.iload_n 0, 1) := by decide +kernel
theorem dJ6_bitCount_0f7a4_16 : decode cJ6_bitCount_0f7a4 16 = .ok (.iconst 2, 1) := by decide +kernel
theorem dJ6_bitCount_0f7a4_17 : decode cJ6_bitCount_0f7a4 17 = .ok (.iushr, 1) := by decide +kernel
theorem dJ6_bitCount_0f7a4_18 : decode cJ6_bitCount_0f7a4 18 = .ok (.ldc_w 266, 3) := by decide +kernel
theorem dJ6_bitCount_0f7a4_21 : decode cJ6_bitCount_0f7a4 21 = .ok (.iand, 1) := by decide +kernel
theorem dJ6_bitCount_0f7a4_22 : decode cJ6_bitCount_0f7a4 22 = .ok (.iadd, 1) := by decide +kernel
theorem dJ6_bitCount_0f7a4_23 : decode cJ6_bitCount_0f7a4 23 = .ok (.istore_n 0, 1) := by decide +kernel
theorem dJ6_bitCount_0f7a4_24 : decode cJ6_bitCount_0f7a4 24 = .ok (.iload_n 0, 1) := by decide +kernel
theorem dJ6_bitCount_0f7a4_25 : decode cJ6_bitCount_0f7a4 25 = .ok (.iload_n 0, 1) := by decide +kernel
theorem dJ6_bitCount_0f7a4_26 : decode cJ6_bitCount_0f7a4 26 = .ok (.iconst 4, 1) := by decide +kernel
theorem dJ6_bitCount_0f7a4_27 : decode cJ6_bitCount_0f7a4 27 = .ok (.iushr, 1) := by decide +kernel
theorem dJ6_bitCount_0f7a4_28 : decode cJ6_bitCount_0f7a4 28 = .ok (.iadd, 1) := by decide +kernel
theorem dJ6_bitCount_0f7a4_29 : decode cJ6_bitCount_0f7a4 29 = .ok (.ldc_w 267, 3) := by decide +kernel
theorem dJ6_bitCount_0f7a4_32 : decode cJ6_bitCount_0f7a4 32 = .ok (.iand, 1) := by decide +kernel
theorem dJ6_bitCount_0f7a4_33 : decode cJ6_bitCount_0f7a4 33 = .ok (.istore_n 0, 1) := by decide +kernel
theorem dJ6_bitCount_0f7a4_34 : decode cJ6_bitCount_0f7a4 34 = .ok (.iload_n 0, 1) := by decide +kernel
theorem dJ6_bitCount_0f7a4_35 : decode cJ6_bitCount_0f7a4 35 = .ok (.iload_n 0, 1) := by decide +kernel
theorem dJ6_bitCount_0f7a4_36 : decode cJ6_bitCount_0f7a4 36 = .ok (.bipush 8, 2) := by decide +kernel
theorem dJ6_bitCount_0f7a4_38 : decode cJ6_bitCount_0f7a4 38 = .ok (.iushr, 1) := by decide +kernel
theorem dJ6_bitCount_0f7a4_39 : decode cJ6_bitCount_0f7a4 39 = .ok (.iadd, 1) := by decide +kernel
theorem dJ6_bitCount_0f7a4_40 : decode cJ6_bitCount_0f7a4 40 = .ok (.istore_n 0, 1) := by decide +kernel
theorem dJ6_bitCount_0f7a4_41 : decode cJ6_bitCount_0f7a4 41 = .ok (.iload_n 0, 1) := by decide +kernel
theorem dJ6_bitCount_0f7a4_42 : decode cJ6_bitCount_0f7a4 42 = .ok (.iload_n 0, 1) := by decide +kernel
theorem dJ6_bitCount_0f7a4_43 : decode cJ6_bitCount_0f7a4 43 = .ok (.bipush 16, 2) := by decide +kernel
theorem dJ6_bitCount_0f7a4_45 : decode cJ6_bitCount_0f7a4 45 = .ok (.iushr, 1) := by decide +kernel
theorem dJ6_bitCount_0f7a4_46 : decode cJ6_bitCount_0f7a4 46 = .ok (.iadd, 1) := by decide +kernel
theorem dJ6_bitCount_0f7a4_47 : decode cJ6_bitCount_0f7a4 47 = .ok (.istore_n 0, 1) := by decide +kernel
theorem dJ6_bitCount_0f7a4_48 : decode cJ6_bitCount_0f7a4 48 = .ok (.iload_n 0, 1) := by decide +kernel
theorem dJ6_bitCount_0f7a4_49 : decode cJ6_bitCount_0f7a4 49 = .ok (.bipush 63, 2) := by decide +kernel
theorem dJ6_bitCount_0f7a4_51 : decode cJ6_bitCount_0f7a4 51 = .ok (.iand, 1) := by decide +kernel
theorem dJ6_bitCount_0f7a4_52 : decode cJ6_bitCount_0f7a4 52 = .ok (.ireturn, 1) := by decide +kernel
theorem dJ13_compare_74951_0 : decode cJ13_compare_74951 0 = .ok (.lload_n 0, 1) := by decide +kernel
theorem dJ13_compare_74951_1 : decode cJ13_compare_74951 1 = .ok (.lload_n 2, 1) := by decide +kernel
theorem dJ13_compare_74951_2 : decode cJ13_compare_74951 2 = .ok (.lcmp, 1) := by decide +kernel
theorem dJ13_compare_74951_3 : decode cJ13_compare_74951 3 = .ok (.ifCond .ge 7, 3) := by decide +kernel
theorem dJ13_compare_74951_6 : decode cJ13_compare_74951 6 = .ok (.iconst (-1), 1) := by decide +kernel
theorem dJ13_compare_74951_7 : decode cJ13_compare_74951 7 = .ok (.goto 14, 3) := by decide +kernel
theorem dJ13_compare_74951_10 : decode cJ13_compare_74951 10 = .ok (.lload_n 0, 1) := by decide +kernel
theorem dJ13_compare_74951_11 : decode cJ13_compare_74951 11 = .ok (.lload_n 2, 1) := by decide +kernel
theorem dJ13_compare_74951_12 : decode cJ13_compare_74951 12 = .ok (.lcmp, 1) := by decide +kernel
theorem dJ13_compare_74951_13 : decode cJ13_compare_74951 13 = .ok (.ifCond .ne 7, 3) := by decide +kernel
theorem dJ13_compare_74951_16 : decode cJ13_compare_74951 16 = .ok (.iconst 0, 1) := by decide +kernel
theorem dJ13_compare_74951_17 : decode cJ13_compare_74951 17 = .ok (.goto 4, 3) := by decide +kernel
theorem dJ13_compare_74951_20 : decode cJ13_compare_74951 20 = .ok (.iconst 1, 1) := by decide +kernel
theorem dJ13_compare_74951_21 : decode cJ13_compare_74951 21 = .ok (.ireturn, 1) := by decide +kernel
theorem dJ9_abs_067f4_0 : decode cJ9_abs_067f4 0 = .ok (.lload_n 0, 1) := by decide +kernel
theorem dJ9_abs_067f4_1 : decode cJ9_abs_067f4 1 = .ok (.lconst 0, 1) := by decide +kernel
theorem dJ9_abs_067f4_2 : decode cJ9_abs_067f4 2 = .ok (.lcmp, 1) := by decide +kernel
theorem dJ9_abs_067f4_3 : decode cJ9_abs_067f4 3 = .ok (.ifCond .ge 8, 3) := by decide +kernel
theorem dJ9_abs_067f4_6 : decode cJ9_abs_067f4 6 = .ok (.lload_n 0, 1) := by decide +kernel
theorem dJ9_abs_067f4_7 : decode cJ9_abs_067f4 7 = .ok (.lneg, 1) := by decide +kernel
theorem dJ9_abs_067f4_8 : decode cJ9_abs_067f4 8 = .ok (.goto 4, 3) := by decide +kernel
theorem dJ9_abs_067f4_11 : decode cJ9_abs_067f4 11 = .ok (.lload_n 0, 1) := by decide +kernel
theorem dJ9_abs_067f4_12 : decode cJ9_abs_067f4 12 = .ok (.lreturn, 1) := by decide +kernel
theorem dJ9_max_7cf53_0 : decode cJ9_max_7cf53 0 = .ok (.iload_n 0, 1) := by decide +kernel
theorem dJ9_max_7cf53_1 : decode cJ9_max_7cf53 1 = .ok (.iload_n 1, 1) := by decide +kernel
theorem dJ9_max_7cf53_2 : decode cJ9_max_7cf53 2 = .ok (.if_icmp .lt 7, 3) := by decide +kernel
theorem dJ9_max_7cf53_5 : decode cJ9_max_7cf53 5 = .ok (.iload_n 0, 1) := by decide +kernel
theorem dJ9_max_7cf53_6 : decode cJ9_max_7cf53 6 = .ok (.goto 4, 3) := by decide +kernel
theorem dJ9_max_7cf53_9 : decode cJ9_max_7cf53 9 = .ok (.iload_n 1, 1) := by decide +kernel
theorem dJ9_max_7cf53_10 : decode cJ9_max_7cf53 10 = .ok (.ireturn, 1) := by decide +kernel
theorem dJ9_min_7cf53_0 : decode cJ9_min_7cf53 0 = .ok (.iload_n 0, 1) := by decide +kernel
theorem dJ9_min_7cf53_1 : decode cJ9_min_7cf53 1 = .ok (.iload_n 1, 1) := by decide +kernel
theorem dJ9_min_7cf53_2 : decode cJ9_min_7cf53 2 = .ok (.if_icmp .gt 7, 3) := by decide +kernel
theorem dJ9_min_7cf53_5 : decode cJ9_min_7cf53 5 = .ok (.iload_n 0, 1) := by decide +kernel
theorem dJ9_min_7cf53_6 : decode cJ9_min_7cf53 6 = .ok (.goto 4, 3) := by decide +kernel
theorem dJ9_min_7cf53_9 : decode cJ9_min_7cf53 9 = .ok (.iload_n 1, 1) := by decide +kernel
theorem dJ9_min_7cf53_10 : decode cJ9_min_7cf53 10 = .ok (.ireturn, 1) := by decide +kernel
theorem dJ0_length_8abf5_0 : decode cJ0_length_8abf5 0 = .ok (.aload_n 0, 1) := by decide +kernel
theorem dJ0_length_8abf5_1 : decode cJ0_length_8abf5 1 = .ok (.getfield 9, 3) := by decide +kernel
theorem dJ0_length_8abf5_4 : decode cJ0_length_8abf5 4 = .ok (.arraylength, 1) := by decide +kernel
theorem dJ0_length_8abf5_5 : decode cJ0_length_8abf5 5 = .ok (.aload_n 0, 1) := by decide +kernel
theorem dJ0_length_8abf5_6 : decode cJ0_length_8abf5 6 = .ok (.invokevirtual 335, 3) := by decide +kernel
theorem dJ0_length_8abf5_9 : decode cJ0_length_8abf5 9 = .ok (.ishr, 1) := by decide +kernel
theorem dJ0_length_8abf5_10 : decode cJ0_length_8abf5 10 = .ok (.ireturn, 1) := by decide +kernel
theorem dJ0_charAt_5068e_0 : decode cJ0_charAt_5068e 0 = .ok (.aload_n 0, 1) := by decide +kernel
theorem dJ0_charAt_5068e_1 : decode cJ0_charAt_5068e 1 = .ok (.invokevirtual 492, 3) := by decide +kernel
theorem dJ0_charAt_5068e_4 : decode cJ0_charAt_5068e 4 = .ok (.ifCond .eq 12, 3) := by decide +kernel
theorem dJ0_charAt_5068e_7 : decode cJ0_charAt_5068e 7 = .ok (.aload_n 0, 1) := by decide +kernel
theorem dJ0_charAt_5068e_8 : decode cJ0_charAt_5068e 8 = .ok (.getfield 9, 3) := by decide +kernel
theorem dJ0_charAt_5068e_11 : decode cJ0_charAt_5068e 11 = .ok (.iload_n 1, 1) := by decide +kernel
theorem dJ0_charAt_5068e_12 : decode cJ0_charAt_5068e 12 = .ok (.invokestatic 495, 3) := by decide +kernel
theorem dJ0_charAt_5068e_15 : decode cJ0_charAt_5068e 15 = .ok (.ireturn, 1) := by decide +kernel
theorem dJ0_charAt_5068e_16 : decode cJ0_charAt_5068e 16 = .ok (.aload_n 0, 1) := by decide +kernel
theorem dJ0_charAt_5068e_17 : decode cJ0_charAt_5068e 17 = .ok (.getfield 9, 3) := by decide +kernel
theorem dJ0_charAt_5068e_20 : decode cJ0_charAt_5068e 20 = .ok (.iload_n 1, 1) := by decide +kernel
theorem dJ0_charAt_5068e_21 : decode cJ0_charAt_5068e 21 = .ok (.invokestatic 498, 3) := by decide +kernel
theorem dJ0_charAt_5068e_24 : decode cJ0_charAt_5068e 24 = .ok (.ireturn, 1) := by decide +kernel
theorem dJ0_coder_7d493_0 : decode cJ0_coder_7d493 0 = .ok (.getstatic 38, 3) := by decide +kernel
theorem dJ0_coder_7d493_3 : decode cJ0_coder_7d493 3 = .ok (.ifCond .eq 10, 3) := by decide +kernel
theorem dJ0_coder_7d493_6 : decode cJ0_coder_7d493 6 = .ok (.aload_n 0, 1) := by decide +kernel
theorem dJ0_coder_7d493_7 : decode cJ0_coder_7d493 7 = .ok (.getfield 15, 3) := by decide +kernel
theorem dJ0_coder_7d493_10 : decode cJ0_coder_7d493 10 = .ok (.goto 4, 3) := by decide +kernel
theorem dJ0_coder_7d493_13 : decode cJ0_coder_7d493 13 = .ok (.iconst 1, 1) := by decide +kernel
theorem dJ0_coder_7d493_14 : decode cJ0_coder_7d493 14 = .ok (.ireturn, 1) := by decide +kernel
theorem dJ0_isLatin1_aae02_0 : decode cJ0_isLatin1_aae02 0 = .ok (.getstatic 38, 3) := by decide +kernel
theorem dJ0_isLatin1_aae02_3 : decode cJ0_isLatin1_aae02 3 = .ok (.ifCond .eq 14, 3) := by decide +kernel
theorem dJ0_isLatin1_aae02_6 : decode cJ0_isLatin1_aae02 6 = .ok (.aload_n 0, 1) := by decide +kernel
theorem dJ0_isLatin1_aae02_7 : decode cJ0_isLatin1_aae02 7 = .ok (.getfield 15, 3) := by decide +kernel
theorem dJ0_isLatin1_aae02_10 : decode cJ0_isLatin1_aae02 10 = .ok (.ifCond .ne 7, 3) := by decide +kernel
theorem dJ0_isLatin1_aae02_13 : decode cJ0_isLatin1_aae02 13 = .ok (.iconst 1, 1) := by decide +kernel
theorem dJ0_isLatin1_aae02_14 : decode cJ0_isLatin1_aae02 14 = .ok (.goto 4, 3) := by decide +kernel
theorem dJ0_isLatin1_aae02_17 : decode cJ0_isLatin1_aae02 17 = .ok (.iconst 0, 1) := by decide +kernel
theorem dJ0_isLatin1_aae02_18 : decode cJ0_isLatin1_aae02 18 = .ok (.ireturn, 1) := by decide +kernel
theorem dJ0_checkIndex_df160_0 : decode cJ0_checkIndex_df160 0 = .ok (.iload_n 0, 1) := by decide +kernel
theorem dJ0_checkIndex_df160_1 : decode cJ0_checkIndex_df160 1 = .ok (.iload_n 1, 1) := by decide +kernel
theorem dJ0_checkIndex_df160_2 : decode cJ0_checkIndex_df160 2 = .ok (.getstatic 1053, 3) := by decide +kernel
theorem dJ0_checkIndex_df160_5 : decode cJ0_checkIndex_df160 5 = .ok (.invokestatic 1059, 3) := by decide +kernel
theorem dJ0_checkIndex_df160_8 : decode cJ0_checkIndex_df160 8 = .ok (.pop, 1) := by decide +kernel
theorem dJ0_checkIndex_df160_9 : decode cJ0_checkIndex_df160 9 = .ok (.return_, 1) := by decide +kernel
theorem dJ1_charAt_3b067_0 : decode cJ1_charAt_3b067 0 = .ok (.iload_n 1, 1) := by decide +kernel
theorem dJ1_charAt_3b067_1 : decode cJ1_charAt_3b067 1 = .ok (.aload_n 0, 1) := by decide +kernel
theorem dJ1_charAt_3b067_2 : decode cJ1_charAt_3b067 2 = .ok (.arraylength, 1) := by decide +kernel
theorem dJ1_charAt_3b067_3 : decode cJ1_charAt_3b067 3 = .ok (.invokestatic 9, 3) := by decide +kernel
theorem dJ1_charAt_3b067_6 : decode cJ1_charAt_3b067 6 = .ok (.aload_n 0, 1) := by decide +kernel
theorem dJ1_charAt_3b067_7 : decode cJ1_charAt_3b067 7 = .ok (.iload_n 1, 1) := by decide +kernel
theorem dJ1_charAt_3b067_8 : decode cJ1_charAt_3b067 8 = .ok (.baload, 1) := by decide +kernel
theorem dJ1_charAt_3b067_9 : decode cJ1_charAt_3b067 9 = .ok (.sipush 255, 3) := by decide +kernel
theorem dJ1_charAt_3b067_12 : decode cJ1_charAt_3b067 12 = .ok (.iand, 1) := by decide +kernel
theorem dJ1_charAt_3b067_13 : decode cJ1_charAt_3b067 13 = .ok (.i2c, 1) := by decide +kernel
theorem dJ1_charAt_3b067_14 : decode cJ1_charAt_3b067 14 = .ok (.ireturn, 1) := by decide +kernel
theorem dJ2_getChar_3b067_0 : decode cJ2_getChar_3b067 0 = .ok (.getstatic 44, 3) := by decide +kernel
theorem dJ2_getChar_3b067_3 : decode cJ2_getChar_3b067 3 = .ok (.ifCond .ne 25, 3) := by decide +kernel
theorem dJ2_getChar_3b067_6 : decode cJ2_getChar_3b067 6 = .ok (.iload_n 1, 1) := by decide +kernel
theorem dJ2_getChar_3b067_7 : decode cJ2_getChar_3b067 7 = .ok (.ifCond .lt 11, 3) := by decide +kernel
theorem dJ2_getChar_3b067_10 : decode cJ2_getChar_3b067 10 = .ok (.iload_n 1, 1) := by decide +kernel
theorem dJ2_getChar_3b067_11 : decode cJ2_getChar_3b067 11 = .ok (.aload_n 0, 1) := by decide +kernel
theorem dJ2_getChar_3b067_12 : decode cJ2_getChar_3b067 12 = .ok (.invokestatic 48, 3) := by decide +kernel
theorem dJ2_getChar_3b067_15 : decode cJ2_getChar_3b067 15 = .ok (.if_icmp .lt 13, 3) := by decide +kernel
theorem dJ2_getChar_3b067_18 : decode cJ2_getChar_3b067 18 = .ok (.new 52, 3) := by decide +kernel
theorem dJ2_getChar_3b067_21 : decode cJ2_getChar_3b067 21 = .ok (.dup, 1) := by decide +kernel
theorem dJ2_getChar_3b067_22 : decode cJ2_getChar_3b067 22 = .ok (.ldc 54, 2) := by decide +kernel
theorem dJ2_getChar_3b067_24 : decode cJ2_getChar_3b067 24 = .ok (.invokespecial 56, 3) := by decide +kernel
theorem dJ2_getChar_3b067_27 : decode cJ2_getChar_3b067 27 = .ok (.athrow, 1) := by decide +kernel
theorem dJ2_getChar_3b067_28 : decode cJ2_getChar_3b067 28 = .ok (.iload_n 1, 1) := by decide +kernel
theorem dJ2_getChar_3b067_29 : decode cJ2_getChar_3b067 29 = .ok (.iconst 1, 1) := by decide +kernel
theorem dJ2_getChar_3b067_30 : decode cJ2_getChar_3b067 30 = .ok (.ishl, 1) := by decide +kernel
theorem dJ2_getChar_3b067_31 : decode cJ2_getChar_3b067 31 = .ok (.istore_n 1, 1) := by decide +kernel
theorem dJ2_getChar_3b067_32 : decode cJ2_getChar_3b067 32 = .ok (.aload_n 0, 1) := by decide +kernel
theorem dJ2_getChar_3b067_33 : decode cJ2_getChar_3b067 33 = .ok (.iload_n 1, 1) := by decide +kernel
theorem dJ2_getChar_3b067_34 : decode cJ2_getChar_3b067 34 = .ok (.iinc 1 1, 3) := by decide +kernel
theorem dJ2_getChar_3b067_37 : decode cJ2_getChar_3b067 37 = .ok (.baload, 1) := by decide +kernel
theorem dJ2_getChar_3b067_38 : decode cJ2_getChar_3b067 38 = .ok (.sipush 255, 3) := by decide +kernel
theorem dJ2_getChar_3b067_41 : decode cJ2_getChar_3b067 41 = .ok (.iand, 1) := by decide +kernel
theorem dJ2_getChar_3b067_42 : decode cJ2_getChar_3b067 42 = .ok (.getstatic 59, 3) := by decide +kernel
theorem dJ2_getChar_3b067_45 : decode cJ2_getChar_3b067 45 = .ok (.ishl, 1) := by decide +kernel
theorem dJ2_getChar_3b067_46 : decode cJ2_getChar_3b067 46 = .ok (.aload_n 0, 1) := by decide +kernel
theorem dJ2_getChar_3b067_47 : decode cJ2_getChar_3b067 47 = .ok (.iload_n 1, 1) := by decide +kernel
theorem dJ2_getChar_3b067_48 : decode cJ2_getChar_3b067 48 = .ok (.baload, 1) := by decide +kernel
theorem dJ2_getChar_3b067_49 : decode cJ2_getChar_3b067 49 = .ok (.sipush 255, 3) := by decide +kernel
theorem dJ2_getChar_3b067_52 : decode cJ2_getChar_3b067 52 = .ok (.iand, 1) := by decide +kernel
theorem dJ2_getChar_3b067_53 : decode cJ2_getChar_3b067 53 = .ok (.getstatic 63, 3) := by decide +kernel
theorem dJ2_getChar_3b067_56 : decode cJ2_getChar_3b067 56 = .ok (.ishl, 1) := by decide +kernel
theorem dJ2_getChar_3b067_57 : decode cJ2_getChar_3b067 57 = .ok (.ior, 1) := by decide +kernel
theorem dJ2_getChar_3b067_58 : decode cJ2_getChar_3b067 58 = .ok (.i2c, 1) := by decide +kernel
theorem dJ2_getChar_3b067_59 : decode cJ2_getChar_3b067 59 = .ok (.ireturn, 1) := by decide +kernel
theorem dJ2_length_9d52b_0 : decode cJ2_length_9d52b 0 = .ok (.aload_n 0, 1) := by decide +kernel
theorem dJ2_length_9d52b_1 : decode cJ2_length_9d52b 1 = .ok (.arraylength, 1) := by decide +kernel
theorem dJ2_length_9d52b_2 : decode cJ2_length_9d52b 2 = .ok (.iconst 1, 1) := by decide +kernel
theorem dJ2_length_9d52b_3 : decode cJ2_length_9d52b 3 = .ok (.ishr, 1) := by decide +kernel
theorem dJ2_length_9d52b_4 : decode cJ2_length_9d52b 4 = .ok (.ireturn, 1) := by decide +kernel
theorem dJ2_charAt_3b067_0 : decode cJ2_charAt_3b067 0 = .ok (.iload_n 1, 1) := by decide +kernel
theorem dJ2_charAt_3b067_1 : decode cJ2_charAt_3b067 1 = .ok (.aload_n 0, 1) := by decide +kernel
theorem dJ2_charAt_3b067_2 : decode cJ2_charAt_3b067 2 = .ok (.invokestatic 67, 3) := by decide +kernel
theorem dJ2_charAt_3b067_5 : decode cJ2_charAt_3b067 5 = .ok (.aload_n 0, 1) := by decide +kernel
theorem dJ2_charAt_3b067_6 : decode cJ2_charAt_3b067 6 = .ok (.iload_n 1, 1) := by decide +kernel
theorem dJ2_charAt_3b067_7 : decode cJ2_charAt_3b067 7 = .ok (.invokestatic 71, 3) := by decide +kernel
theorem dJ2_charAt_3b067_10 : decode cJ2_charAt_3b067 10 = .ok (.ireturn, 1) := by decide +kernel
theorem dJ2_checkIndex_2214a_0 : decode cJ2_checkIndex_2214a 0 = .ok (.iload_n 0, 1) := by decide +kernel
theorem dJ2_checkIndex_2214a_1 : decode cJ2_checkIndex_2214a 1 = .ok (.aload_n 1, 1) := by decide +kernel
theorem dJ2_checkIndex_2214a_2 : decode cJ2_checkIndex_2214a 2 = .ok (.invokestatic 48, 3) := by decide +kernel
theorem dJ2_checkIndex_2214a_5 : decode cJ2_checkIndex_2214a 5 = .ok (.invokestatic 414, 3) := by decide +kernel
theorem dJ2_checkIndex_2214a_8 : decode cJ2_checkIndex_2214a 8 = .ok (.return_, 1) := by decide +kernel
theorem dJ3_checkIndex_8e157_0 : decode cJ3_checkIndex_8e157 0 = .ok (.iload_n 0, 1) := by decide +kernel
theorem dJ3_checkIndex_8e157_1 : decode cJ3_checkIndex_8e157 1 = .ok (.ifCond .lt 8, 3) := by decide +kernel
theorem dJ3_checkIndex_8e157_4 : decode cJ3_checkIndex_8e157 4 = .ok (.iload_n 0, 1) := by decide +kernel
theorem dJ3_checkIndex_8e157_5 : decode cJ3_checkIndex_8e157 5 = .ok (.iload_n 1, 1) := by decide +kernel
theorem dJ3_checkIndex_8e157_6 : decode cJ3_checkIndex_8e157 6 = .ok (.if_icmp .lt 10, 3) := by decide +kernel
theorem dJ3_checkIndex_8e157_9 : decode cJ3_checkIndex_8e157 9 = .ok (.aload_n 2, 1) := by decide +kernel
theorem dJ3_checkIndex_8e157_10 : decode cJ3_checkIndex_8e157 10 = .ok (.iload_n 0, 1) := by decide +kernel
theorem dJ3_checkIndex_8e157_11 : decode cJ3_checkIndex_8e157 11 = .ok (.iload_n 1, 1) := by decide +kernel
theorem dJ3_checkIndex_8e157_12 : decode cJ3_checkIndex_8e157 12 = .ok (.invokestatic 95, 3) := by decide +kernel
theorem dJ3_checkIndex_8e157_15 : decode cJ3_checkIndex_8e157 15 = .ok (.athrow, 1) := by decide +kernel
theorem dJ3_checkIndex_8e157_16 : decode cJ3_checkIndex_8e157 16 = .ok (.iload_n 0, 1) := by decide +kernel
theorem dJ3_checkIndex_8e157_17 : decode cJ3_checkIndex_8e157 17 = .ok (.ireturn, 1) := by decide +kernel
theorem dL_law_0 : decode cL_law 0 = .ok (.new 7, 3) := by decide +kernel
theorem dL_law_3 : decode cL_law 3 = .ok (.dup, 1) := by decide +kernel
theorem dL_law_4 : decode cL_law 4 = .ok (.invokespecial 9, 3) := by decide +kernel
theorem dL_law_7 : decode cL_law 7 = .ok (.astore_n 1, 1) := by decide +kernel
theorem dL_law_8 : decode cL_law 8 = .ok (.new 10, 3) := by decide +kernel
theorem dL_law_11 : decode cL_law 11 = .ok (.dup, 1) := by decide +kernel
theorem dL_law_12 : decode cL_law 12 = .ok (.invokespecial 12, 3) := by decide +kernel
theorem dL_law_15 : decode cL_law 15 = .ok (.astore_n 2, 1) := by decide +kernel
theorem dL_law_16 : decode cL_law 16 = .ok (.iconst 0, 1) := by decide +kernel
theorem dL_law_17 : decode cL_law 17 = .ok (.istore_n 3, 1) := by decide +kernel
theorem dL_law_18 : decode cL_law 18 = .ok (.iload_n 3, 1) := by decide +kernel
theorem dL_law_19 : decode cL_law 19 = .ok (.aload_n 0, 1) := by decide +kernel
theorem dL_law_20 : decode cL_law 20 = .ok (.arraylength, 1) := by decide +kernel
theorem dL_law_21 : decode cL_law 21 = .ok (.bipush 6, 2) := by decide +kernel
theorem dL_law_23 : decode cL_law 23 = .ok (.isub, 1) := by decide +kernel
theorem dL_law_24 : decode cL_law 24 = .ok (.if_icmp .gt 1745, 3) := by decide +kernel
theorem dL_law_27 : decode cL_law 27 = .ok (.aload_n 0, 1) := by decide +kernel
theorem dL_law_28 : decode cL_law 28 = .ok (.iload_n 3, 1) := by decide +kernel
theorem dL_law_29 : decode cL_law 29 = .ok (.iaload, 1) := by decide +kernel
theorem dL_law_30 : decode cL_law 30 = .ok (.bipush 63, 2) := by decide +kernel
theorem dL_law_32 : decode cL_law 32 = .ok (.iand, 1) := by decide +kernel
theorem dL_law_33 : decode cL_law 33 = .ok (.tableswitch 1730 0 41 #[183, 206, 219, 242, 295, 338, 371, 404, 427, 460, 483, 527, 571, 615, 669, 713, 767, 821, 854, 887, 920, 943, 956, 1010, 1074, 1128, 1191, 1234, 1267, 1290, 1303, 1336, 1409, 1443, 1486, 1519, 1562, 1605, 1648, 1681, 1694, 1707], 183) := by decide +kernel
theorem dL_law_216 : decode cL_law 216 = .ok (.aload_n 1, 1) := by decide +kernel
theorem dL_law_217 : decode cL_law 217 = .ok (.aload_n 0, 1) := by decide +kernel
theorem dL_law_218 : decode cL_law 218 = .ok (.iload_n 3, 1) := by decide +kernel
theorem dL_law_219 : decode cL_law 219 = .ok (.iconst 1, 1) := by decide +kernel
theorem dL_law_220 : decode cL_law 220 = .ok (.iadd, 1) := by decide +kernel
theorem dL_law_221 : decode cL_law 221 = .ok (.iaload, 1) := by decide +kernel
theorem dL_law_222 : decode cL_law 222 = .ok (.invokevirtual 13, 3) := by decide +kernel
theorem dL_law_225 : decode cL_law 225 = .ok (.aload_n 2, 1) := by decide +kernel
theorem dL_law_226 : decode cL_law 226 = .ok (.aload_n 0, 1) := by decide +kernel
theorem dL_law_227 : decode cL_law 227 = .ok (.iload_n 3, 1) := by decide +kernel
theorem dL_law_228 : decode cL_law 228 = .ok (.iconst 1, 1) := by decide +kernel
theorem dL_law_229 : decode cL_law 229 = .ok (.iadd, 1) := by decide +kernel
theorem dL_law_230 : decode cL_law 230 = .ok (.iaload, 1) := by decide +kernel
theorem dL_law_231 : decode cL_law 231 = .ok (.invokevirtual 17, 3) := by decide +kernel
theorem dL_law_234 : decode cL_law 234 = .ok (.if_icmp .eq 1529, 3) := by decide +kernel
theorem dL_law_237 : decode cL_law 237 = .ok (.iconst 0, 1) := by decide +kernel
theorem dL_law_238 : decode cL_law 238 = .ok (.ireturn, 1) := by decide +kernel
theorem dL_law_239 : decode cL_law 239 = .ok (.aload_n 1, 1) := by decide +kernel
theorem dL_law_240 : decode cL_law 240 = .ok (.invokevirtual 18, 3) := by decide +kernel
theorem dL_law_243 : decode cL_law 243 = .ok (.aload_n 2, 1) := by decide +kernel
theorem dL_law_244 : decode cL_law 244 = .ok (.invokevirtual 22, 3) := by decide +kernel
theorem dL_law_247 : decode cL_law 247 = .ok (.if_icmp .eq 1516, 3) := by decide +kernel
theorem dL_law_250 : decode cL_law 250 = .ok (.iconst 0, 1) := by decide +kernel
theorem dL_law_251 : decode cL_law 251 = .ok (.ireturn, 1) := by decide +kernel
theorem dL_law_252 : decode cL_law 252 = .ok (.aload_n 1, 1) := by decide +kernel
theorem dL_law_253 : decode cL_law 253 = .ok (.aload_n 0, 1) := by decide +kernel
theorem dL_law_254 : decode cL_law 254 = .ok (.iload_n 3, 1) := by decide +kernel
theorem dL_law_255 : decode cL_law 255 = .ok (.iconst 1, 1) := by decide +kernel
theorem dL_law_256 : decode cL_law 256 = .ok (.iadd, 1) := by decide +kernel
theorem dL_law_257 : decode cL_law 257 = .ok (.iaload, 1) := by decide +kernel
theorem dL_law_258 : decode cL_law 258 = .ok (.invokevirtual 23, 3) := by decide +kernel
theorem dL_law_261 : decode cL_law 261 = .ok (.aload_n 2, 1) := by decide +kernel
theorem dL_law_262 : decode cL_law 262 = .ok (.aload_n 0, 1) := by decide +kernel
theorem dL_law_263 : decode cL_law 263 = .ok (.iload_n 3, 1) := by decide +kernel
theorem dL_law_264 : decode cL_law 264 = .ok (.iconst 1, 1) := by decide +kernel
theorem dL_law_265 : decode cL_law 265 = .ok (.iadd, 1) := by decide +kernel
theorem dL_law_266 : decode cL_law 266 = .ok (.iaload, 1) := by decide +kernel
theorem dL_law_267 : decode cL_law 267 = .ok (.invokevirtual 26, 3) := by decide +kernel
theorem dL_law_270 : decode cL_law 270 = .ok (.if_icmp .eq 1493, 3) := by decide +kernel
theorem dL_law_273 : decode cL_law 273 = .ok (.iconst 0, 1) := by decide +kernel
theorem dL_law_274 : decode cL_law 274 = .ok (.ireturn, 1) := by decide +kernel
theorem dL_law_275 : decode cL_law 275 = .ok (.aload_n 1, 1) := by decide +kernel
theorem dL_law_276 : decode cL_law 276 = .ok (.aload_n 0, 1) := by decide +kernel
theorem dL_law_277 : decode cL_law 277 = .ok (.iload_n 3, 1) := by decide +kernel
theorem dL_law_278 : decode cL_law 278 = .ok (.iconst 1, 1) := by decide +kernel
theorem dL_law_279 : decode cL_law 279 = .ok (.iadd, 1) := by decide +kernel
theorem dL_law_280 : decode cL_law 280 = .ok (.iaload, 1) := by decide +kernel
theorem dL_law_281 : decode cL_law 281 = .ok (.aload_n 0, 1) := by decide +kernel
theorem dL_law_282 : decode cL_law 282 = .ok (.iload_n 3, 1) := by decide +kernel
theorem dL_law_283 : decode cL_law 283 = .ok (.iconst 2, 1) := by decide +kernel
theorem dL_law_284 : decode cL_law 284 = .ok (.iadd, 1) := by decide +kernel
theorem dL_law_285 : decode cL_law 285 = .ok (.iaload, 1) := by decide +kernel
theorem dL_law_286 : decode cL_law 286 = .ok (.aload_n 0, 1) := by decide +kernel
theorem dL_law_287 : decode cL_law 287 = .ok (.iload_n 3, 1) := by decide +kernel
theorem dL_law_288 : decode cL_law 288 = .ok (.iconst 3, 1) := by decide +kernel
theorem dL_law_289 : decode cL_law 289 = .ok (.iadd, 1) := by decide +kernel
theorem dL_law_290 : decode cL_law 290 = .ok (.iaload, 1) := by decide +kernel
theorem dL_law_291 : decode cL_law 291 = .ok (.aload_n 0, 1) := by decide +kernel
theorem dL_law_292 : decode cL_law 292 = .ok (.iload_n 3, 1) := by decide +kernel
theorem dL_law_293 : decode cL_law 293 = .ok (.iconst 4, 1) := by decide +kernel
theorem dL_law_294 : decode cL_law 294 = .ok (.iadd, 1) := by decide +kernel
theorem dL_law_295 : decode cL_law 295 = .ok (.iaload, 1) := by decide +kernel
theorem dL_law_296 : decode cL_law 296 = .ok (.invokevirtual 27, 3) := by decide +kernel
theorem dL_law_299 : decode cL_law 299 = .ok (.aload_n 2, 1) := by decide +kernel
theorem dL_law_300 : decode cL_law 300 = .ok (.aload_n 0, 1) := by decide +kernel
theorem dL_law_301 : decode cL_law 301 = .ok (.iload_n 3, 1) := by decide +kernel
theorem dL_law_302 : decode cL_law 302 = .ok (.iconst 1, 1) := by decide +kernel
theorem dL_law_303 : decode cL_law 303 = .ok (.iadd, 1) := by decide +kernel
theorem dL_law_304 : decode cL_law 304 = .ok (.iaload, 1) := by decide +kernel
theorem dL_law_305 : decode cL_law 305 = .ok (.aload_n 0, 1) := by decide +kernel
theorem dL_law_306 : decode cL_law 306 = .ok (.iload_n 3, 1) := by decide +kernel
theorem dL_law_307 : decode cL_law 307 = .ok (.iconst 2, 1) := by decide +kernel
theorem dL_law_308 : decode cL_law 308 = .ok (.iadd, 1) := by decide +kernel
theorem dL_law_309 : decode cL_law 309 = .ok (.iaload, 1) := by decide +kernel
theorem dL_law_310 : decode cL_law 310 = .ok (.aload_n 0, 1) := by decide +kernel
theorem dL_law_311 : decode cL_law 311 = .ok (.iload_n 3, 1) := by decide +kernel
theorem dL_law_312 : decode cL_law 312 = .ok (.iconst 3, 1) := by decide +kernel
theorem dL_law_313 : decode cL_law 313 = .ok (.iadd, 1) := by decide +kernel
theorem dL_law_314 : decode cL_law 314 = .ok (.iaload, 1) := by decide +kernel
theorem dL_law_315 : decode cL_law 315 = .ok (.aload_n 0, 1) := by decide +kernel
theorem dL_law_316 : decode cL_law 316 = .ok (.iload_n 3, 1) := by decide +kernel
theorem dL_law_317 : decode cL_law 317 = .ok (.iconst 4, 1) := by decide +kernel
theorem dL_law_318 : decode cL_law 318 = .ok (.iadd, 1) := by decide +kernel
theorem dL_law_319 : decode cL_law 319 = .ok (.iaload, 1) := by decide +kernel
theorem dL_law_320 : decode cL_law 320 = .ok (.invokevirtual 31, 3) := by decide +kernel
theorem dL_law_323 : decode cL_law 323 = .ok (.if_icmp .eq 1440, 3) := by decide +kernel
theorem dL_law_326 : decode cL_law 326 = .ok (.iconst 0, 1) := by decide +kernel
theorem dL_law_327 : decode cL_law 327 = .ok (.ireturn, 1) := by decide +kernel
theorem dL_law_328 : decode cL_law 328 = .ok (.aload_n 1, 1) := by decide +kernel
theorem dL_law_329 : decode cL_law 329 = .ok (.aload_n 0, 1) := by decide +kernel
theorem dL_law_330 : decode cL_law 330 = .ok (.iload_n 3, 1) := by decide +kernel
theorem dL_law_331 : decode cL_law 331 = .ok (.iconst 1, 1) := by decide +kernel
theorem dL_law_332 : decode cL_law 332 = .ok (.iadd, 1) := by decide +kernel
theorem dL_law_333 : decode cL_law 333 = .ok (.iaload, 1) := by decide +kernel
theorem dL_law_334 : decode cL_law 334 = .ok (.aload_n 0, 1) := by decide +kernel
theorem dL_law_335 : decode cL_law 335 = .ok (.iload_n 3, 1) := by decide +kernel
theorem dL_law_336 : decode cL_law 336 = .ok (.iconst 2, 1) := by decide +kernel
theorem dL_law_337 : decode cL_law 337 = .ok (.iadd, 1) := by decide +kernel
theorem dL_law_338 : decode cL_law 338 = .ok (.iaload, 1) := by decide +kernel
theorem dL_law_339 : decode cL_law 339 = .ok (.aload_n 0, 1) := by decide +kernel
theorem dL_law_340 : decode cL_law 340 = .ok (.iload_n 3, 1) := by decide +kernel
theorem dL_law_341 : decode cL_law 341 = .ok (.iconst 3, 1) := by decide +kernel
theorem dL_law_342 : decode cL_law 342 = .ok (.iadd, 1) := by decide +kernel
theorem dL_law_343 : decode cL_law 343 = .ok (.iaload, 1) := by decide +kernel
theorem dL_law_344 : decode cL_law 344 = .ok (.invokevirtual 32, 3) := by decide +kernel
theorem dL_law_347 : decode cL_law 347 = .ok (.aload_n 2, 1) := by decide +kernel
theorem dL_law_348 : decode cL_law 348 = .ok (.aload_n 0, 1) := by decide +kernel
theorem dL_law_349 : decode cL_law 349 = .ok (.iload_n 3, 1) := by decide +kernel
theorem dL_law_350 : decode cL_law 350 = .ok (.iconst 1, 1) := by decide +kernel
theorem dL_law_351 : decode cL_law 351 = .ok (.iadd, 1) := by decide +kernel
theorem dL_law_352 : decode cL_law 352 = .ok (.iaload, 1) := by decide +kernel
theorem dL_law_353 : decode cL_law 353 = .ok (.aload_n 0, 1) := by decide +kernel
theorem dL_law_354 : decode cL_law 354 = .ok (.iload_n 3, 1) := by decide +kernel
theorem dL_law_355 : decode cL_law 355 = .ok (.iconst 2, 1) := by decide +kernel
theorem dL_law_356 : decode cL_law 356 = .ok (.iadd, 1) := by decide +kernel
theorem dL_law_357 : decode cL_law 357 = .ok (.iaload, 1) := by decide +kernel
theorem dL_law_358 : decode cL_law 358 = .ok (.aload_n 0, 1) := by decide +kernel
theorem dL_law_359 : decode cL_law 359 = .ok (.iload_n 3, 1) := by decide +kernel
theorem dL_law_360 : decode cL_law 360 = .ok (.iconst 3, 1) := by decide +kernel
theorem dL_law_361 : decode cL_law 361 = .ok (.iadd, 1) := by decide +kernel
theorem dL_law_362 : decode cL_law 362 = .ok (.iaload, 1) := by decide +kernel
theorem dL_law_363 : decode cL_law 363 = .ok (.invokevirtual 36, 3) := by decide +kernel
theorem dL_law_366 : decode cL_law 366 = .ok (.if_icmp .eq 1397, 3) := by decide +kernel
theorem dL_law_369 : decode cL_law 369 = .ok (.iconst 0, 1) := by decide +kernel
theorem dL_law_370 : decode cL_law 370 = .ok (.ireturn, 1) := by decide +kernel
theorem dL_law_371 : decode cL_law 371 = .ok (.aload_n 1, 1) := by decide +kernel
theorem dL_law_372 : decode cL_law 372 = .ok (.aload_n 0, 1) := by decide +kernel
theorem dL_law_373 : decode cL_law 373 = .ok (.iload_n 3, 1) := by decide +kernel
theorem dL_law_374 : decode cL_law 374 = .ok (.iconst 1, 1) := by decide +kernel
theorem dL_law_375 : decode cL_law 375 = .ok (.iadd, 1) := by decide +kernel
theorem dL_law_376 : decode cL_law 376 = .ok (.iaload, 1) := by decide +kernel
theorem dL_law_377 : decode cL_law 377 = .ok (.aload_n 0, 1) := by decide +kernel
theorem dL_law_378 : decode cL_law 378 = .ok (.iload_n 3, 1) := by decide +kernel
theorem dL_law_379 : decode cL_law 379 = .ok (.iconst 2, 1) := by decide +kernel
theorem dL_law_380 : decode cL_law 380 = .ok (.iadd, 1) := by decide +kernel
theorem dL_law_381 : decode cL_law 381 = .ok (.iaload, 1) := by decide +kernel
theorem dL_law_382 : decode cL_law 382 = .ok (.invokevirtual 37, 3) := by decide +kernel
theorem dL_law_385 : decode cL_law 385 = .ok (.aload_n 2, 1) := by decide +kernel
theorem dL_law_386 : decode cL_law 386 = .ok (.aload_n 0, 1) := by decide +kernel
theorem dL_law_387 : decode cL_law 387 = .ok (.iload_n 3, 1) := by decide +kernel
theorem dL_law_388 : decode cL_law 388 = .ok (.iconst 1, 1) := by decide +kernel
theorem dL_law_389 : decode cL_law 389 = .ok (.iadd, 1) := by decide +kernel
theorem dL_law_390 : decode cL_law 390 = .ok (.iaload, 1) := by decide +kernel
theorem dL_law_391 : decode cL_law 391 = .ok (.aload_n 0, 1) := by decide +kernel
theorem dL_law_392 : decode cL_law 392 = .ok (.iload_n 3, 1) := by decide +kernel
theorem dL_law_393 : decode cL_law 393 = .ok (.iconst 2, 1) := by decide +kernel
theorem dL_law_394 : decode cL_law 394 = .ok (.iadd, 1) := by decide +kernel
theorem dL_law_395 : decode cL_law 395 = .ok (.iaload, 1) := by decide +kernel
theorem dL_law_396 : decode cL_law 396 = .ok (.invokevirtual 41, 3) := by decide +kernel
theorem dL_law_399 : decode cL_law 399 = .ok (.if_icmp .eq 1364, 3) := by decide +kernel
theorem dL_law_402 : decode cL_law 402 = .ok (.iconst 0, 1) := by decide +kernel
theorem dL_law_403 : decode cL_law 403 = .ok (.ireturn, 1) := by decide +kernel
theorem dL_law_404 : decode cL_law 404 = .ok (.aload_n 1, 1) := by decide +kernel
theorem dL_law_405 : decode cL_law 405 = .ok (.aload_n 0, 1) := by decide +kernel
theorem dL_law_406 : decode cL_law 406 = .ok (.iload_n 3, 1) := by decide +kernel
theorem dL_law_407 : decode cL_law 407 = .ok (.iconst 1, 1) := by decide +kernel
theorem dL_law_408 : decode cL_law 408 = .ok (.iadd, 1) := by decide +kernel
theorem dL_law_409 : decode cL_law 409 = .ok (.iaload, 1) := by decide +kernel
theorem dL_law_410 : decode cL_law 410 = .ok (.aload_n 0, 1) := by decide +kernel
theorem dL_law_411 : decode cL_law 411 = .ok (.iload_n 3, 1) := by decide +kernel
theorem dL_law_412 : decode cL_law 412 = .ok (.iconst 2, 1) := by decide +kernel
theorem dL_law_413 : decode cL_law 413 = .ok (.iadd, 1) := by decide +kernel
theorem dL_law_414 : decode cL_law 414 = .ok (.iaload, 1) := by decide +kernel
theorem dL_law_415 : decode cL_law 415 = .ok (.invokevirtual 42, 3) := by decide +kernel
theorem dL_law_418 : decode cL_law 418 = .ok (.aload_n 2, 1) := by decide +kernel
theorem dL_law_419 : decode cL_law 419 = .ok (.aload_n 0, 1) := by decide +kernel
theorem dL_law_420 : decode cL_law 420 = .ok (.iload_n 3, 1) := by decide +kernel
theorem dL_law_421 : decode cL_law 421 = .ok (.iconst 1, 1) := by decide +kernel
theorem dL_law_422 : decode cL_law 422 = .ok (.iadd, 1) := by decide +kernel
theorem dL_law_423 : decode cL_law 423 = .ok (.iaload, 1) := by decide +kernel
theorem dL_law_424 : decode cL_law 424 = .ok (.aload_n 0, 1) := by decide +kernel
theorem dL_law_425 : decode cL_law 425 = .ok (.iload_n 3, 1) := by decide +kernel
theorem dL_law_426 : decode cL_law 426 = .ok (.iconst 2, 1) := by decide +kernel
theorem dL_law_427 : decode cL_law 427 = .ok (.iadd, 1) := by decide +kernel
theorem dL_law_428 : decode cL_law 428 = .ok (.iaload, 1) := by decide +kernel
theorem dL_law_429 : decode cL_law 429 = .ok (.invokevirtual 45, 3) := by decide +kernel
theorem dL_law_432 : decode cL_law 432 = .ok (.if_icmp .eq 1331, 3) := by decide +kernel
theorem dL_law_435 : decode cL_law 435 = .ok (.iconst 0, 1) := by decide +kernel
theorem dL_law_436 : decode cL_law 436 = .ok (.ireturn, 1) := by decide +kernel
theorem dL_law_437 : decode cL_law 437 = .ok (.aload_n 1, 1) := by decide +kernel
theorem dL_law_438 : decode cL_law 438 = .ok (.aload_n 0, 1) := by decide +kernel
theorem dL_law_439 : decode cL_law 439 = .ok (.iload_n 3, 1) := by decide +kernel
theorem dL_law_440 : decode cL_law 440 = .ok (.iconst 1, 1) := by decide +kernel
theorem dL_law_441 : decode cL_law 441 = .ok (.iadd, 1) := by decide +kernel
theorem dL_law_442 : decode cL_law 442 = .ok (.iaload, 1) := by decide +kernel
theorem dL_law_443 : decode cL_law 443 = .ok (.invokevirtual 46, 3) := by decide +kernel
theorem dL_law_446 : decode cL_law 446 = .ok (.aload_n 2, 1) := by decide +kernel
theorem dL_law_447 : decode cL_law 447 = .ok (.aload_n 0, 1) := by decide +kernel
theorem dL_law_448 : decode cL_law 448 = .ok (.iload_n 3, 1) := by decide +kernel
theorem dL_law_449 : decode cL_law 449 = .ok (.iconst 1, 1) := by decide +kernel
theorem dL_law_450 : decode cL_law 450 = .ok (.iadd, 1) := by decide +kernel
theorem dL_law_451 : decode cL_law 451 = .ok (.iaload, 1) := by decide +kernel
theorem dL_law_452 : decode cL_law 452 = .ok (.invokevirtual 49, 3) := by decide +kernel
theorem dL_law_455 : decode cL_law 455 = .ok (.if_icmp .eq 1308, 3) := by decide +kernel
theorem dL_law_458 : decode cL_law 458 = .ok (.iconst 0, 1) := by decide +kernel
theorem dL_law_459 : decode cL_law 459 = .ok (.ireturn, 1) := by decide +kernel
theorem dL_law_460 : decode cL_law 460 = .ok (.aload_n 1, 1) := by decide +kernel
theorem dL_law_461 : decode cL_law 461 = .ok (.aload_n 0, 1) := by decide +kernel
theorem dL_law_462 : decode cL_law 462 = .ok (.iload_n 3, 1) := by decide +kernel
theorem dL_law_463 : decode cL_law 463 = .ok (.iconst 1, 1) := by decide +kernel
theorem dL_law_464 : decode cL_law 464 = .ok (.iadd, 1) := by decide +kernel
theorem dL_law_465 : decode cL_law 465 = .ok (.iaload, 1) := by decide +kernel
theorem dL_law_466 : decode cL_law 466 = .ok (.aload_n 0, 1) := by decide +kernel
theorem dL_law_467 : decode cL_law 467 = .ok (.iload_n 3, 1) := by decide +kernel
theorem dL_law_468 : decode cL_law 468 = .ok (.iconst 2, 1) := by decide +kernel
theorem dL_law_469 : decode cL_law 469 = .ok (.iadd, 1) := by decide +kernel
theorem dL_law_470 : decode cL_law 470 = .ok (.iaload, 1) := by decide +kernel
theorem dL_law_471 : decode cL_law 471 = .ok (.invokevirtual 50, 3) := by decide +kernel
theorem dL_law_474 : decode cL_law 474 = .ok (.aload_n 2, 1) := by decide +kernel
theorem dL_law_475 : decode cL_law 475 = .ok (.aload_n 0, 1) := by decide +kernel
theorem dL_law_476 : decode cL_law 476 = .ok (.iload_n 3, 1) := by decide +kernel
theorem dL_law_477 : decode cL_law 477 = .ok (.iconst 1, 1) := by decide +kernel
theorem dL_law_478 : decode cL_law 478 = .ok (.iadd, 1) := by decide +kernel
theorem dL_law_479 : decode cL_law 479 = .ok (.iaload, 1) := by decide +kernel
theorem dL_law_480 : decode cL_law 480 = .ok (.aload_n 0, 1) := by decide +kernel
theorem dL_law_481 : decode cL_law 481 = .ok (.iload_n 3, 1) := by decide +kernel
theorem dL_law_482 : decode cL_law 482 = .ok (.iconst 2, 1) := by decide +kernel
theorem dL_law_483 : decode cL_law 483 = .ok (.iadd, 1) := by decide +kernel
theorem dL_law_484 : decode cL_law 484 = .ok (.iaload, 1) := by decide +kernel
theorem dL_law_485 : decode cL_law 485 = .ok (.invokevirtual 53, 3) := by decide +kernel
theorem dL_law_488 : decode cL_law 488 = .ok (.if_icmp .eq 1275, 3) := by decide +kernel
theorem dL_law_491 : decode cL_law 491 = .ok (.iconst 0, 1) := by decide +kernel
theorem dL_law_492 : decode cL_law 492 = .ok (.ireturn, 1) := by decide +kernel
theorem dL_law_493 : decode cL_law 493 = .ok (.aload_n 1, 1) := by decide +kernel
theorem dL_law_494 : decode cL_law 494 = .ok (.aload_n 0, 1) := by decide +kernel
theorem dL_law_495 : decode cL_law 495 = .ok (.iload_n 3, 1) := by decide +kernel
theorem dL_law_496 : decode cL_law 496 = .ok (.iconst 1, 1) := by decide +kernel
theorem dL_law_497 : decode cL_law 497 = .ok (.iadd, 1) := by decide +kernel
theorem dL_law_498 : decode cL_law 498 = .ok (.iaload, 1) := by decide +kernel
theorem dL_law_499 : decode cL_law 499 = .ok (.invokevirtual 54, 3) := by decide +kernel
theorem dL_law_502 : decode cL_law 502 = .ok (.aload_n 2, 1) := by decide +kernel
theorem dL_law_503 : decode cL_law 503 = .ok (.aload_n 0, 1) := by decide +kernel
theorem dL_law_504 : decode cL_law 504 = .ok (.iload_n 3, 1) := by decide +kernel
theorem dL_law_505 : decode cL_law 505 = .ok (.iconst 1, 1) := by decide +kernel
theorem dL_law_506 : decode cL_law 506 = .ok (.iadd, 1) := by decide +kernel
theorem dL_law_507 : decode cL_law 507 = .ok (.iaload, 1) := by decide +kernel
theorem dL_law_508 : decode cL_law 508 = .ok (.invokevirtual 57, 3) := by decide +kernel
theorem dL_law_511 : decode cL_law 511 = .ok (.if_icmp .eq 1252, 3) := by decide +kernel
theorem dL_law_514 : decode cL_law 514 = .ok (.iconst 0, 1) := by decide +kernel
theorem dL_law_515 : decode cL_law 515 = .ok (.ireturn, 1) := by decide +kernel
theorem dL_law_516 : decode cL_law 516 = .ok (.aload_n 1, 1) := by decide +kernel
theorem dL_law_517 : decode cL_law 517 = .ok (.aload_n 0, 1) := by decide +kernel
theorem dL_law_518 : decode cL_law 518 = .ok (.iload_n 3, 1) := by decide +kernel
theorem dL_law_519 : decode cL_law 519 = .ok (.iconst 1, 1) := by decide +kernel
theorem dL_law_520 : decode cL_law 520 = .ok (.iadd, 1) := by decide +kernel
theorem dL_law_521 : decode cL_law 521 = .ok (.iaload, 1) := by decide +kernel
theorem dL_law_522 : decode cL_law 522 = .ok (.aload_n 0, 1) := by decide +kernel
theorem dL_law_523 : decode cL_law 523 = .ok (.iload_n 3, 1) := by decide +kernel
theorem dL_law_524 : decode cL_law 524 = .ok (.iconst 2, 1) := by decide +kernel
theorem dL_law_525 : decode cL_law 525 = .ok (.iadd, 1) := by decide +kernel
theorem dL_law_526 : decode cL_law 526 = .ok (.iaload, 1) := by decide +kernel
theorem dL_law_527 : decode cL_law 527 = .ok (.aload_n 0, 1) := by decide +kernel
theorem dL_law_528 : decode cL_law 528 = .ok (.iload_n 3, 1) := by decide +kernel
theorem dL_law_529 : decode cL_law 529 = .ok (.iconst 3, 1) := by decide +kernel
theorem dL_law_530 : decode cL_law 530 = .ok (.iadd, 1) := by decide +kernel
theorem dL_law_531 : decode cL_law 531 = .ok (.iaload, 1) := by decide +kernel
theorem dL_law_532 : decode cL_law 532 = .ok (.invokevirtual 58, 3) := by decide +kernel
theorem dL_law_535 : decode cL_law 535 = .ok (.aload_n 2, 1) := by decide +kernel
theorem dL_law_536 : decode cL_law 536 = .ok (.aload_n 0, 1) := by decide +kernel
theorem dL_law_537 : decode cL_law 537 = .ok (.iload_n 3, 1) := by decide +kernel
theorem dL_law_538 : decode cL_law 538 = .ok (.iconst 1, 1) := by decide +kernel
theorem dL_law_539 : decode cL_law 539 = .ok (.iadd, 1) := by decide +kernel
theorem dL_law_540 : decode cL_law 540 = .ok (.iaload, 1) := by decide +kernel
theorem dL_law_541 : decode cL_law 541 = .ok (.aload_n 0, 1) := by decide +kernel
theorem dL_law_542 : decode cL_law 542 = .ok (.iload_n 3, 1) := by decide +kernel
theorem dL_law_543 : decode cL_law 543 = .ok (.iconst 2, 1) := by decide +kernel
theorem dL_law_544 : decode cL_law 544 = .ok (.iadd, 1) := by decide +kernel
theorem dL_law_545 : decode cL_law 545 = .ok (.iaload, 1) := by decide +kernel
theorem dL_law_546 : decode cL_law 546 = .ok (.aload_n 0, 1) := by decide +kernel
theorem dL_law_547 : decode cL_law 547 = .ok (.iload_n 3, 1) := by decide +kernel
theorem dL_law_548 : decode cL_law 548 = .ok (.iconst 3, 1) := by decide +kernel
theorem dL_law_549 : decode cL_law 549 = .ok (.iadd, 1) := by decide +kernel
theorem dL_law_550 : decode cL_law 550 = .ok (.iaload, 1) := by decide +kernel
theorem dL_law_551 : decode cL_law 551 = .ok (.invokevirtual 62, 3) := by decide +kernel
theorem dL_law_554 : decode cL_law 554 = .ok (.lcmp, 1) := by decide +kernel
theorem dL_law_555 : decode cL_law 555 = .ok (.ifCond .eq 1208, 3) := by decide +kernel
theorem dL_law_558 : decode cL_law 558 = .ok (.iconst 0, 1) := by decide +kernel
theorem dL_law_559 : decode cL_law 559 = .ok (.ireturn, 1) := by decide +kernel
theorem dL_law_560 : decode cL_law 560 = .ok (.aload_n 1, 1) := by decide +kernel
theorem dL_law_561 : decode cL_law 561 = .ok (.aload_n 0, 1) := by decide +kernel
theorem dL_law_562 : decode cL_law 562 = .ok (.iload_n 3, 1) := by decide +kernel
theorem dL_law_563 : decode cL_law 563 = .ok (.iconst 1, 1) := by decide +kernel
theorem dL_law_564 : decode cL_law 564 = .ok (.iadd, 1) := by decide +kernel
theorem dL_law_565 : decode cL_law 565 = .ok (.iaload, 1) := by decide +kernel
theorem dL_law_566 : decode cL_law 566 = .ok (.aload_n 0, 1) := by decide +kernel
theorem dL_law_567 : decode cL_law 567 = .ok (.iload_n 3, 1) := by decide +kernel
theorem dL_law_568 : decode cL_law 568 = .ok (.iconst 2, 1) := by decide +kernel
theorem dL_law_569 : decode cL_law 569 = .ok (.iadd, 1) := by decide +kernel
theorem dL_law_570 : decode cL_law 570 = .ok (.iaload, 1) := by decide +kernel
theorem dL_law_571 : decode cL_law 571 = .ok (.aload_n 0, 1) := by decide +kernel
theorem dL_law_572 : decode cL_law 572 = .ok (.iload_n 3, 1) := by decide +kernel
theorem dL_law_573 : decode cL_law 573 = .ok (.iconst 3, 1) := by decide +kernel
theorem dL_law_574 : decode cL_law 574 = .ok (.iadd, 1) := by decide +kernel
theorem dL_law_575 : decode cL_law 575 = .ok (.iaload, 1) := by decide +kernel
theorem dL_law_576 : decode cL_law 576 = .ok (.invokevirtual 63, 3) := by decide +kernel
theorem dL_law_579 : decode cL_law 579 = .ok (.aload_n 2, 1) := by decide +kernel
theorem dL_law_580 : decode cL_law 580 = .ok (.aload_n 0, 1) := by decide +kernel
theorem dL_law_581 : decode cL_law 581 = .ok (.iload_n 3, 1) := by decide +kernel
theorem dL_law_582 : decode cL_law 582 = .ok (.iconst 1, 1) := by decide +kernel
theorem dL_law_583 : decode cL_law 583 = .ok (.iadd, 1) := by decide +kernel
theorem dL_law_584 : decode cL_law 584 = .ok (.iaload, 1) := by decide +kernel
theorem dL_law_585 : decode cL_law 585 = .ok (.aload_n 0, 1) := by decide +kernel
theorem dL_law_586 : decode cL_law 586 = .ok (.iload_n 3, 1) := by decide +kernel
theorem dL_law_587 : decode cL_law 587 = .ok (.iconst 2, 1) := by decide +kernel
theorem dL_law_588 : decode cL_law 588 = .ok (.iadd, 1) := by decide +kernel
theorem dL_law_589 : decode cL_law 589 = .ok (.iaload, 1) := by decide +kernel
theorem dL_law_590 : decode cL_law 590 = .ok (.aload_n 0, 1) := by decide +kernel
theorem dL_law_591 : decode cL_law 591 = .ok (.iload_n 3, 1) := by decide +kernel
theorem dL_law_592 : decode cL_law 592 = .ok (.iconst 3, 1) := by decide +kernel
theorem dL_law_593 : decode cL_law 593 = .ok (.iadd, 1) := by decide +kernel
theorem dL_law_594 : decode cL_law 594 = .ok (.iaload, 1) := by decide +kernel
theorem dL_law_595 : decode cL_law 595 = .ok (.invokevirtual 66, 3) := by decide +kernel
theorem dL_law_598 : decode cL_law 598 = .ok (.lcmp, 1) := by decide +kernel
theorem dL_law_599 : decode cL_law 599 = .ok (.ifCond .eq 1164, 3) := by decide +kernel
theorem dL_law_602 : decode cL_law 602 = .ok (.iconst 0, 1) := by decide +kernel
theorem dL_law_603 : decode cL_law 603 = .ok (.ireturn, 1) := by decide +kernel
theorem dL_law_604 : decode cL_law 604 = .ok (.aload_n 1, 1) := by decide +kernel
theorem dL_law_605 : decode cL_law 605 = .ok (.aload_n 0, 1) := by decide +kernel
theorem dL_law_606 : decode cL_law 606 = .ok (.iload_n 3, 1) := by decide +kernel
theorem dL_law_607 : decode cL_law 607 = .ok (.iconst 1, 1) := by decide +kernel
theorem dL_law_608 : decode cL_law 608 = .ok (.iadd, 1) := by decide +kernel
theorem dL_law_609 : decode cL_law 609 = .ok (.iaload, 1) := by decide +kernel
theorem dL_law_610 : decode cL_law 610 = .ok (.aload_n 0, 1) := by decide +kernel
theorem dL_law_611 : decode cL_law 611 = .ok (.iload_n 3, 1) := by decide +kernel
theorem dL_law_612 : decode cL_law 612 = .ok (.iconst 2, 1) := by decide +kernel
theorem dL_law_613 : decode cL_law 613 = .ok (.iadd, 1) := by decide +kernel
theorem dL_law_614 : decode cL_law 614 = .ok (.iaload, 1) := by decide +kernel
theorem dL_law_615 : decode cL_law 615 = .ok (.aload_n 0, 1) := by decide +kernel
theorem dL_law_616 : decode cL_law 616 = .ok (.iload_n 3, 1) := by decide +kernel
theorem dL_law_617 : decode cL_law 617 = .ok (.iconst 3, 1) := by decide +kernel
theorem dL_law_618 : decode cL_law 618 = .ok (.iadd, 1) := by decide +kernel
theorem dL_law_619 : decode cL_law 619 = .ok (.iaload, 1) := by decide +kernel
theorem dL_law_620 : decode cL_law 620 = .ok (.invokevirtual 67, 3) := by decide +kernel
theorem dL_law_623 : decode cL_law 623 = .ok (.aload_n 2, 1) := by decide +kernel
theorem dL_law_624 : decode cL_law 624 = .ok (.aload_n 0, 1) := by decide +kernel
theorem dL_law_625 : decode cL_law 625 = .ok (.iload_n 3, 1) := by decide +kernel
theorem dL_law_626 : decode cL_law 626 = .ok (.iconst 1, 1) := by decide +kernel
theorem dL_law_627 : decode cL_law 627 = .ok (.iadd, 1) := by decide +kernel
theorem dL_law_628 : decode cL_law 628 = .ok (.iaload, 1) := by decide +kernel
theorem dL_law_629 : decode cL_law 629 = .ok (.aload_n 0, 1) := by decide +kernel
theorem dL_law_630 : decode cL_law 630 = .ok (.iload_n 3, 1) := by decide +kernel
theorem dL_law_631 : decode cL_law 631 = .ok (.iconst 2, 1) := by decide +kernel
theorem dL_law_632 : decode cL_law 632 = .ok (.iadd, 1) := by decide +kernel
theorem dL_law_633 : decode cL_law 633 = .ok (.iaload, 1) := by decide +kernel
theorem dL_law_634 : decode cL_law 634 = .ok (.aload_n 0, 1) := by decide +kernel
theorem dL_law_635 : decode cL_law 635 = .ok (.iload_n 3, 1) := by decide +kernel
theorem dL_law_636 : decode cL_law 636 = .ok (.iconst 3, 1) := by decide +kernel
theorem dL_law_637 : decode cL_law 637 = .ok (.iadd, 1) := by decide +kernel
theorem dL_law_638 : decode cL_law 638 = .ok (.iaload, 1) := by decide +kernel
theorem dL_law_639 : decode cL_law 639 = .ok (.invokevirtual 70, 3) := by decide +kernel
theorem dL_law_642 : decode cL_law 642 = .ok (.lcmp, 1) := by decide +kernel
theorem dL_law_643 : decode cL_law 643 = .ok (.ifCond .eq 1120, 3) := by decide +kernel
theorem dL_law_646 : decode cL_law 646 = .ok (.iconst 0, 1) := by decide +kernel
theorem dL_law_647 : decode cL_law 647 = .ok (.ireturn, 1) := by decide +kernel
theorem dL_law_648 : decode cL_law 648 = .ok (.aload_n 1, 1) := by decide +kernel
theorem dL_law_649 : decode cL_law 649 = .ok (.aload_n 0, 1) := by decide +kernel
theorem dL_law_650 : decode cL_law 650 = .ok (.iload_n 3, 1) := by decide +kernel
theorem dL_law_651 : decode cL_law 651 = .ok (.iconst 1, 1) := by decide +kernel
theorem dL_law_652 : decode cL_law 652 = .ok (.iadd, 1) := by decide +kernel
theorem dL_law_653 : decode cL_law 653 = .ok (.iaload, 1) := by decide +kernel
theorem dL_law_654 : decode cL_law 654 = .ok (.aload_n 0, 1) := by decide +kernel
theorem dL_law_655 : decode cL_law 655 = .ok (.iload_n 3, 1) := by decide +kernel
theorem dL_law_656 : decode cL_law 656 = .ok (.iconst 2, 1) := by decide +kernel
theorem dL_law_657 : decode cL_law 657 = .ok (.iadd, 1) := by decide +kernel
theorem dL_law_658 : decode cL_law 658 = .ok (.iaload, 1) := by decide +kernel
theorem dL_law_659 : decode cL_law 659 = .ok (.aload_n 0, 1) := by decide +kernel
theorem dL_law_660 : decode cL_law 660 = .ok (.iload_n 3, 1) := by decide +kernel
theorem dL_law_661 : decode cL_law 661 = .ok (.iconst 3, 1) := by decide +kernel
theorem dL_law_662 : decode cL_law 662 = .ok (.iadd, 1) := by decide +kernel
theorem dL_law_663 : decode cL_law 663 = .ok (.iaload, 1) := by decide +kernel
theorem dL_law_664 : decode cL_law 664 = .ok (.aload_n 0, 1) := by decide +kernel
theorem dL_law_665 : decode cL_law 665 = .ok (.iload_n 3, 1) := by decide +kernel
theorem dL_law_666 : decode cL_law 666 = .ok (.iconst 4, 1) := by decide +kernel
theorem dL_law_667 : decode cL_law 667 = .ok (.iadd, 1) := by decide +kernel
theorem dL_law_668 : decode cL_law 668 = .ok (.iaload, 1) := by decide +kernel
theorem dL_law_669 : decode cL_law 669 = .ok (.invokevirtual 71, 3) := by decide +kernel
theorem dL_law_672 : decode cL_law 672 = .ok (.aload_n 2, 1) := by decide +kernel
theorem dL_law_673 : decode cL_law 673 = .ok (.aload_n 0, 1) := by decide +kernel
theorem dL_law_674 : decode cL_law 674 = .ok (.iload_n 3, 1) := by decide +kernel
theorem dL_law_675 : decode cL_law 675 = .ok (.iconst 1, 1) := by decide +kernel
theorem dL_law_676 : decode cL_law 676 = .ok (.iadd, 1) := by decide +kernel
theorem dL_law_677 : decode cL_law 677 = .ok (.iaload, 1) := by decide +kernel
theorem dL_law_678 : decode cL_law 678 = .ok (.aload_n 0, 1) := by decide +kernel
theorem dL_law_679 : decode cL_law 679 = .ok (.iload_n 3, 1) := by decide +kernel
theorem dL_law_680 : decode cL_law 680 = .ok (.iconst 2, 1) := by decide +kernel
theorem dL_law_681 : decode cL_law 681 = .ok (.iadd, 1) := by decide +kernel
theorem dL_law_682 : decode cL_law 682 = .ok (.iaload, 1) := by decide +kernel
theorem dL_law_683 : decode cL_law 683 = .ok (.aload_n 0, 1) := by decide +kernel
theorem dL_law_684 : decode cL_law 684 = .ok (.iload_n 3, 1) := by decide +kernel
theorem dL_law_685 : decode cL_law 685 = .ok (.iconst 3, 1) := by decide +kernel
theorem dL_law_686 : decode cL_law 686 = .ok (.iadd, 1) := by decide +kernel
theorem dL_law_687 : decode cL_law 687 = .ok (.iaload, 1) := by decide +kernel
theorem dL_law_688 : decode cL_law 688 = .ok (.aload_n 0, 1) := by decide +kernel
theorem dL_law_689 : decode cL_law 689 = .ok (.iload_n 3, 1) := by decide +kernel
theorem dL_law_690 : decode cL_law 690 = .ok (.iconst 4, 1) := by decide +kernel
theorem dL_law_691 : decode cL_law 691 = .ok (.iadd, 1) := by decide +kernel
theorem dL_law_692 : decode cL_law 692 = .ok (.iaload, 1) := by decide +kernel
theorem dL_law_693 : decode cL_law 693 = .ok (.invokevirtual 75, 3) := by decide +kernel
theorem dL_law_696 : decode cL_law 696 = .ok (.lcmp, 1) := by decide +kernel
theorem dL_law_697 : decode cL_law 697 = .ok (.ifCond .eq 1066, 3) := by decide +kernel
theorem dL_law_700 : decode cL_law 700 = .ok (.iconst 0, 1) := by decide +kernel
theorem dL_law_701 : decode cL_law 701 = .ok (.ireturn, 1) := by decide +kernel
theorem dL_law_702 : decode cL_law 702 = .ok (.aload_n 1, 1) := by decide +kernel
theorem dL_law_703 : decode cL_law 703 = .ok (.aload_n 0, 1) := by decide +kernel
theorem dL_law_704 : decode cL_law 704 = .ok (.iload_n 3, 1) := by decide +kernel
theorem dL_law_705 : decode cL_law 705 = .ok (.iconst 1, 1) := by decide +kernel
theorem dL_law_706 : decode cL_law 706 = .ok (.iadd, 1) := by decide +kernel
theorem dL_law_707 : decode cL_law 707 = .ok (.iaload, 1) := by decide +kernel
theorem dL_law_708 : decode cL_law 708 = .ok (.aload_n 0, 1) := by decide +kernel
theorem dL_law_709 : decode cL_law 709 = .ok (.iload_n 3, 1) := by decide +kernel
theorem dL_law_710 : decode cL_law 710 = .ok (.iconst 2, 1) := by decide +kernel
theorem dL_law_711 : decode cL_law 711 = .ok (.iadd, 1) := by decide +kernel
theorem dL_law_712 : decode cL_law 712 = .ok (.iaload, 1) := by decide +kernel
theorem dL_law_713 : decode cL_law 713 = .ok (.aload_n 0, 1) := by decide +kernel
theorem dL_law_714 : decode cL_law 714 = .ok (.iload_n 3, 1) := by decide +kernel
theorem dL_law_715 : decode cL_law 715 = .ok (.iconst 3, 1) := by decide +kernel
theorem dL_law_716 : decode cL_law 716 = .ok (.iadd, 1) := by decide +kernel
theorem dL_law_717 : decode cL_law 717 = .ok (.iaload, 1) := by decide +kernel
theorem dL_law_718 : decode cL_law 718 = .ok (.invokevirtual 76, 3) := by decide +kernel
theorem dL_law_721 : decode cL_law 721 = .ok (.aload_n 2, 1) := by decide +kernel
theorem dL_law_722 : decode cL_law 722 = .ok (.aload_n 0, 1) := by decide +kernel
theorem dL_law_723 : decode cL_law 723 = .ok (.iload_n 3, 1) := by decide +kernel
theorem dL_law_724 : decode cL_law 724 = .ok (.iconst 1, 1) := by decide +kernel
theorem dL_law_725 : decode cL_law 725 = .ok (.iadd, 1) := by decide +kernel
theorem dL_law_726 : decode cL_law 726 = .ok (.iaload, 1) := by decide +kernel
theorem dL_law_727 : decode cL_law 727 = .ok (.aload_n 0, 1) := by decide +kernel
theorem dL_law_728 : decode cL_law 728 = .ok (.iload_n 3, 1) := by decide +kernel
theorem dL_law_729 : decode cL_law 729 = .ok (.iconst 2, 1) := by decide +kernel
theorem dL_law_730 : decode cL_law 730 = .ok (.iadd, 1) := by decide +kernel
theorem dL_law_731 : decode cL_law 731 = .ok (.iaload, 1) := by decide +kernel
theorem dL_law_732 : decode cL_law 732 = .ok (.aload_n 0, 1) := by decide +kernel
theorem dL_law_733 : decode cL_law 733 = .ok (.iload_n 3, 1) := by decide +kernel
theorem dL_law_734 : decode cL_law 734 = .ok (.iconst 3, 1) := by decide +kernel
theorem dL_law_735 : decode cL_law 735 = .ok (.iadd, 1) := by decide +kernel
theorem dL_law_736 : decode cL_law 736 = .ok (.iaload, 1) := by decide +kernel
theorem dL_law_737 : decode cL_law 737 = .ok (.invokevirtual 79, 3) := by decide +kernel
theorem dL_law_740 : decode cL_law 740 = .ok (.lcmp, 1) := by decide +kernel
theorem dL_law_741 : decode cL_law 741 = .ok (.ifCond .eq 1022, 3) := by decide +kernel
theorem dL_law_744 : decode cL_law 744 = .ok (.iconst 0, 1) := by decide +kernel
theorem dL_law_745 : decode cL_law 745 = .ok (.ireturn, 1) := by decide +kernel
theorem dL_law_746 : decode cL_law 746 = .ok (.aload_n 1, 1) := by decide +kernel
theorem dL_law_747 : decode cL_law 747 = .ok (.aload_n 0, 1) := by decide +kernel
theorem dL_law_748 : decode cL_law 748 = .ok (.iload_n 3, 1) := by decide +kernel
theorem dL_law_749 : decode cL_law 749 = .ok (.iconst 1, 1) := by decide +kernel
theorem dL_law_750 : decode cL_law 750 = .ok (.iadd, 1) := by decide +kernel
theorem dL_law_751 : decode cL_law 751 = .ok (.iaload, 1) := by decide +kernel
theorem dL_law_752 : decode cL_law 752 = .ok (.aload_n 0, 1) := by decide +kernel
theorem dL_law_753 : decode cL_law 753 = .ok (.iload_n 3, 1) := by decide +kernel
theorem dL_law_754 : decode cL_law 754 = .ok (.iconst 2, 1) := by decide +kernel
theorem dL_law_755 : decode cL_law 755 = .ok (.iadd, 1) := by decide +kernel
theorem dL_law_756 : decode cL_law 756 = .ok (.iaload, 1) := by decide +kernel
theorem dL_law_757 : decode cL_law 757 = .ok (.aload_n 0, 1) := by decide +kernel
theorem dL_law_758 : decode cL_law 758 = .ok (.iload_n 3, 1) := by decide +kernel
theorem dL_law_759 : decode cL_law 759 = .ok (.iconst 3, 1) := by decide +kernel
theorem dL_law_760 : decode cL_law 760 = .ok (.iadd, 1) := by decide +kernel
theorem dL_law_761 : decode cL_law 761 = .ok (.iaload, 1) := by decide +kernel
theorem dL_law_762 : decode cL_law 762 = .ok (.aload_n 0, 1) := by decide +kernel
theorem dL_law_763 : decode cL_law 763 = .ok (.iload_n 3, 1) := by decide +kernel
theorem dL_law_764 : decode cL_law 764 = .ok (.iconst 4, 1) := by decide +kernel
