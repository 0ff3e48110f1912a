theorem dX4_addLetter_25 : decode cX4_addLetter 25 = .ok (.iadd, 1) := by decide +kernel
theorem dX4_addLetter_26 : decode cX4_addLetter 26 = .ok (.putfield 7, 3) := by decide +kernel
theorem dX4_addLetter_29 : decode cX4_addLetter 29 = .ok (.return_, 1) := by decide +kernel
theorem dX5_init_0 : decode cX5_init 0 = .ok (.aload_n 0, 1) := by decide +kernel
theorem dX5_init_1 : decode cX5_init 1 = .ok (.invokespecial 3, 3) := by decide +kernel
theorem dX5_init_4 : decode cX5_init 4 = .ok (.aload_n 0, 1) := by decide +kernel
theorem dX5_init_5 : decode cX5_init 5 = .ok (.iconst 3, 1) := by decide +kernel
theorem dX5_init_6 : decode cX5_init 6 = .ok (.newarray .int, 2) := by decide +kernel
theorem dX5_init_8 : decode cX5_init 8 = .ok (.dup, 1) := by decide +kernel
theorem dX5_init_9 : decode cX5_init 9 = .ok (.iconst 0, 1) := by decide +kernel
theorem dX5_init_10 : decode cX5_init 10 = .ok (.iconst (-1), 1) := by decide +kernel
theorem dX5_init_11 : decode cX5_init 11 = .ok (.iastore, 1) := by decide +kernel
theorem dX5_init_12 : decode cX5_init 12 = .ok (.dup, 1) := by decide +kernel
theorem dX5_init_13 : decode cX5_init 13 = .ok (.iconst 1, 1) := by decide +kernel
theorem dX5_init_14 : decode cX5_init 14 = .ok (.iconst (-1), 1) := by decide +kernel
theorem dX5_init_15 : decode cX5_init 15 = .ok (.iastore, 1) := by decide +kernel
theorem dX5_init_16 : decode cX5_init 16 = .ok (.dup, 1) := by decide +kernel
theorem dX5_init_17 : decode cX5_init 17 = .ok (.iconst 2, 1) := by decide +kernel
theorem dX5_init_18 : decode cX5_init 18 = .ok (.iconst (-1), 1) := by decide +kernel
theorem dX5_init_19 : decode cX5_init 19 = .ok (.iastore, 1) := by decide +kernel
theorem dX5_init_20 : decode cX5_init 20 = .ok (.putfield 9, 3) := by decide +kernel
theorem dX5_init_23 : decode cX5_init 23 = .ok (.aload_n 0, 1) := by decide +kernel
theorem dX5_init_24 : decode cX5_init 24 = .ok (.iconst 3, 1) := by decide +kernel
theorem dX5_init_25 : decode cX5_init 25 = .ok (.newarray .int, 2) := by decide +kernel
theorem dX5_init_27 : decode cX5_init 27 = .ok (.putfield 15, 3) := by decide +kernel
theorem dX5_init_30 : decode cX5_init 30 = .ok (.aload_n 0, 1) := by decide +kernel
theorem dX5_init_31 : decode cX5_init 31 = .ok (.iconst 3, 1) := by decide +kernel
theorem dX5_init_32 : decode cX5_init 32 = .ok (.bipush 9, 2) := by decide +kernel
theorem dX5_init_34 : decode cX5_init 34 = .ok (.multianewarray 18 2, 4) := by decide +kernel
theorem dX5_init_38 : decode cX5_init 38 = .ok (.putfield 20, 3) := by decide +kernel
theorem dX5_init_41 : decode cX5_init 41 = .ok (.aload_n 0, 1) := by decide +kernel
theorem dX5_init_42 : decode cX5_init 42 = .ok (.iconst 3, 1) := by decide +kernel
theorem dX5_init_43 : decode cX5_init 43 = .ok (.bipush 9, 2) := by decide +kernel
theorem dX5_init_45 : decode cX5_init 45 = .ok (.multianewarray 18 2, 4) := by decide +kernel
theorem dX5_init_49 : decode cX5_init 49 = .ok (.putfield 23, 3) := by decide +kernel
theorem dX5_init_52 : decode cX5_init 52 = .ok (.return_, 1) := by decide +kernel
theorem dX5_make_0 : decode cX5_make 0 = .ok (.iload_n 1, 1) := by decide +kernel
theorem dX5_make_1 : decode cX5_make 1 = .ok (.invokestatic 26, 3) := by decide +kernel
theorem dX5_make_4 : decode cX5_make 4 = .ok (.ifCond .ne 5, 3) := by decide +kernel
theorem dX5_make_7 : decode cX5_make 7 = .ok (.iconst (-1), 1) := by decide +kernel
theorem dX5_make_8 : decode cX5_make 8 = .ok (.ireturn, 1) := by decide +kernel
theorem dX5_make_9 : decode cX5_make 9 = .ok (.iload_n 2, 1) := by decide +kernel
theorem dX5_make_10 : decode cX5_make 10 = .ok (.invokestatic 30, 3) := by decide +kernel
theorem dX5_make_13 : decode cX5_make 13 = .ok (.ifCond .ne 6, 3) := by decide +kernel
theorem dX5_make_16 : decode cX5_make 16 = .ok (.bipush (-2), 2) := by decide +kernel
theorem dX5_make_18 : decode cX5_make 18 = .ok (.ireturn, 1) := by decide +kernel
theorem dX5_make_19 : decode cX5_make 19 = .ok (.iload_n 3, 1) := by decide +kernel
theorem dX5_make_20 : decode cX5_make 20 = .ok (.bipush 9, 2) := by decide +kernel
theorem dX5_make_22 : decode cX5_make 22 = .ok (.if_icmp .le 6, 3) := by decide +kernel
theorem dX5_make_25 : decode cX5_make 25 = .ok (.bipush (-6), 2) := by decide +kernel
theorem dX5_make_27 : decode cX5_make 27 = .ok (.ireturn, 1) := by decide +kernel
theorem dX5_make_28 : decode cX5_make 28 = .ok (.iload_n 3, 1) := by decide +kernel
theorem dX5_make_29 : decode cX5_make 29 = .ok (.ifCond .ge 6, 3) := by decide +kernel
theorem dX5_make_32 : decode cX5_make 32 = .ok (.bipush (-14), 2) := by decide +kernel
theorem dX5_make_34 : decode cX5_make 34 = .ok (.ireturn, 1) := by decide +kernel
theorem dX5_make_35 : decode cX5_make 35 = .ok (.iconst 0, 1) := by decide +kernel
theorem dX5_make_36 : decode cX5_make 36 = .ok (.istore 4, 2) := by decide +kernel
theorem dX5_make_38 : decode cX5_make 38 = .ok (.iload 4, 2) := by decide +kernel
theorem dX5_make_40 : decode cX5_make 40 = .ok (.iload_n 3, 1) := by decide +kernel
theorem dX5_make_41 : decode cX5_make 41 = .ok (.if_icmp .ge 19, 3) := by decide +kernel
theorem dX5_make_44 : decode cX5_make 44 = .ok (.aload_n 0, 1) := by decide +kernel
theorem dX5_make_45 : decode cX5_make 45 = .ok (.getfield 20, 3) := by decide +kernel
theorem dX5_make_48 : decode cX5_make 48 = .ok (.iload_n 1, 1) := by decide +kernel
theorem dX5_make_49 : decode cX5_make 49 = .ok (.aaload, 1) := by decide +kernel
theorem dX5_make_50 : decode cX5_make 50 = .ok (.iload 4, 2) := by decide +kernel
theorem dX5_make_52 : decode cX5_make 52 = .ok (.iconst (-1), 1) := by decide +kernel
theorem dX5_make_53 : decode cX5_make 53 = .ok (.iastore, 1) := by decide +kernel
theorem dX5_make_54 : decode cX5_make 54 = .ok (.iinc 4 1, 3) := by decide +kernel
theorem dX5_make_57 : decode cX5_make 57 = .ok (.goto (-19), 3) := by decide +kernel
theorem dX5_make_60 : decode cX5_make 60 = .ok (.aload_n 0, 1) := by decide +kernel
theorem dX5_make_61 : decode cX5_make 61 = .ok (.getfield 15, 3) := by decide +kernel
theorem dX5_make_64 : decode cX5_make 64 = .ok (.iload_n 1, 1) := by decide +kernel
theorem dX5_make_65 : decode cX5_make 65 = .ok (.iload_n 2, 1) := by decide +kernel
theorem dX5_make_66 : decode cX5_make 66 = .ok (.iastore, 1) := by decide +kernel
theorem dX5_make_67 : decode cX5_make 67 = .ok (.aload_n 0, 1) := by decide +kernel
theorem dX5_make_68 : decode cX5_make 68 = .ok (.getfield 9, 3) := by decide +kernel
theorem dX5_make_71 : decode cX5_make 71 = .ok (.iload_n 1, 1) := by decide +kernel
theorem dX5_make_72 : decode cX5_make 72 = .ok (.iload_n 3, 1) := by decide +kernel
theorem dX5_make_73 : decode cX5_make 73 = .ok (.iastore, 1) := by decide +kernel
theorem dX5_make_74 : decode cX5_make 74 = .ok (.iconst 1, 1) := by decide +kernel
theorem dX5_make_75 : decode cX5_make 75 = .ok (.ireturn, 1) := by decide +kernel
theorem dX5_lay_0 : decode cX5_lay 0 = .ok (.iload_n 1, 1) := by decide +kernel
theorem dX5_lay_1 : decode cX5_lay 1 = .ok (.invokestatic 26, 3) := by decide +kernel
theorem dX5_lay_4 : decode cX5_lay 4 = .ok (.ifCond .eq 12, 3) := by decide +kernel
theorem dX5_lay_7 : decode cX5_lay 7 = .ok (.aload_n 0, 1) := by decide +kernel
theorem dX5_lay_8 : decode cX5_lay 8 = .ok (.iload_n 1, 1) := by decide +kernel
theorem dX5_lay_9 : decode cX5_lay 9 = .ok (.iload_n 2, 1) := by decide +kernel
theorem dX5_lay_10 : decode cX5_lay 10 = .ok (.invokevirtual 33, 3) := by decide +kernel
theorem dX5_lay_13 : decode cX5_lay 13 = .ok (.goto 4, 3) := by decide +kernel
theorem dX5_lay_16 : decode cX5_lay 16 = .ok (.iconst (-1), 1) := by decide +kernel
theorem dX5_lay_17 : decode cX5_lay 17 = .ok (.istore 5, 2) := by decide +kernel
theorem dX5_lay_19 : decode cX5_lay 19 = .ok (.iload 5, 2) := by decide +kernel
theorem dX5_lay_21 : decode cX5_lay 21 = .ok (.ifCond .eq 6, 3) := by decide +kernel
theorem dX5_lay_24 : decode cX5_lay 24 = .ok (.iload 5, 2) := by decide +kernel
theorem dX5_lay_26 : decode cX5_lay 26 = .ok (.ireturn, 1) := by decide +kernel
theorem dX5_lay_27 : decode cX5_lay 27 = .ok (.iload_n 3, 1) := by decide +kernel
theorem dX5_lay_28 : decode cX5_lay 28 = .ok (.ifCond .lt 19, 3) := by decide +kernel
theorem dX5_lay_31 : decode cX5_lay 31 = .ok (.iload_n 3, 1) := by decide +kernel
theorem dX5_lay_32 : decode cX5_lay 32 = .ok (.aload_n 0, 1) := by decide +kernel
theorem dX5_lay_33 : decode cX5_lay 33 = .ok (.getfield 15, 3) := by decide +kernel
theorem dX5_lay_36 : decode cX5_lay 36 = .ok (.iload_n 1, 1) := by decide +kernel
theorem dX5_lay_37 : decode cX5_lay 37 = .ok (.iaload, 1) := by decide +kernel
theorem dX5_lay_38 : decode cX5_lay 38 = .ok (.invokestatic 37, 3) := by decide +kernel
theorem dX5_lay_41 : decode cX5_lay 41 = .ok (.ifCond .ne 6, 3) := by decide +kernel
theorem dX5_lay_44 : decode cX5_lay 44 = .ok (.bipush (-16), 2) := by decide +kernel
theorem dX5_lay_46 : decode cX5_lay 46 = .ok (.ireturn, 1) := by decide +kernel
theorem dX5_lay_47 : decode cX5_lay 47 = .ok (.aload_n 0, 1) := by decide +kernel
theorem dX5_lay_48 : decode cX5_lay 48 = .ok (.getfield 20, 3) := by decide +kernel
theorem dX5_lay_51 : decode cX5_lay 51 = .ok (.iload_n 1, 1) := by decide +kernel
theorem dX5_lay_52 : decode cX5_lay 52 = .ok (.aaload, 1) := by decide +kernel
theorem dX5_lay_53 : decode cX5_lay 53 = .ok (.iload_n 2, 1) := by decide +kernel
theorem dX5_lay_54 : decode cX5_lay 54 = .ok (.iload_n 3, 1) := by decide +kernel
theorem dX5_lay_55 : decode cX5_lay 55 = .ok (.iastore, 1) := by decide +kernel
theorem dX5_lay_56 : decode cX5_lay 56 = .ok (.aload_n 0, 1) := by decide +kernel
theorem dX5_lay_57 : decode cX5_lay 57 = .ok (.getfield 23, 3) := by decide +kernel
theorem dX5_lay_60 : decode cX5_lay 60 = .ok (.iload_n 1, 1) := by decide +kernel
theorem dX5_lay_61 : decode cX5_lay 61 = .ok (.aaload, 1) := by decide +kernel
theorem dX5_lay_62 : decode cX5_lay 62 = .ok (.iload_n 2, 1) := by decide +kernel
theorem dX5_lay_63 : decode cX5_lay 63 = .ok (.iload 4, 2) := by decide +kernel
theorem dX5_lay_65 : decode cX5_lay 65 = .ok (.iastore, 1) := by decide +kernel
theorem dX5_lay_66 : decode cX5_lay 66 = .ok (.iconst 1, 1) := by decide +kernel
theorem dX5_lay_67 : decode cX5_lay 67 = .ok (.ireturn, 1) := by decide +kernel
theorem dX5_weightIn_0 : decode cX5_weightIn 0 = .ok (.iload_n 1, 1) := by decide +kernel
theorem dX5_weightIn_1 : decode cX5_weightIn 1 = .ok (.invokestatic 26, 3) := by decide +kernel
theorem dX5_weightIn_4 : decode cX5_weightIn 4 = .ok (.ifCond .eq 13, 3) := by decide +kernel
theorem dX5_weightIn_7 : decode cX5_weightIn 7 = .ok (.iload_n 3, 1) := by decide +kernel
theorem dX5_weightIn_8 : decode cX5_weightIn 8 = .ok (.iconst 1, 1) := by decide +kernel
theorem dX5_weightIn_9 : decode cX5_weightIn 9 = .ok (.bipush 9, 2) := by decide +kernel
theorem dX5_weightIn_11 : decode cX5_weightIn 11 = .ok (.invokestatic 41, 3) := by decide +kernel
theorem dX5_weightIn_14 : decode cX5_weightIn 14 = .ok (.goto 4, 3) := by decide +kernel
theorem dX5_weightIn_17 : decode cX5_weightIn 17 = .ok (.iconst (-1), 1) := by decide +kernel
theorem dX5_weightIn_18 : decode cX5_weightIn 18 = .ok (.istore 4, 2) := by decide +kernel
theorem dX5_weightIn_20 : decode cX5_weightIn 20 = .ok (.iload 4, 2) := by decide +kernel
theorem dX5_weightIn_22 : decode cX5_weightIn 22 = .ok (.ifCond .ne 11, 3) := by decide +kernel
theorem dX5_weightIn_25 : decode cX5_weightIn 25 = .ok (.aload_n 0, 1) := by decide +kernel
theorem dX5_weightIn_26 : decode cX5_weightIn 26 = .ok (.iload_n 1, 1) := by decide +kernel
theorem dX5_weightIn_27 : decode cX5_weightIn 27 = .ok (.iload_n 2, 1) := by decide +kernel
theorem dX5_weightIn_28 : decode cX5_weightIn 28 = .ok (.invokevirtual 33, 3) := by decide +kernel
theorem dX5_weightIn_31 : decode cX5_weightIn 31 = .ok (.istore 4, 2) := by decide +kernel
theorem dX5_weightIn_33 : decode cX5_weightIn 33 = .ok (.iload 4, 2) := by decide +kernel
theorem dX5_weightIn_35 : decode cX5_weightIn 35 = .ok (.ifCond .eq 6, 3) := by decide +kernel
theorem dX5_weightIn_38 : decode cX5_weightIn 38 = .ok (.iload 4, 2) := by decide +kernel
theorem dX5_weightIn_40 : decode cX5_weightIn 40 = .ok (.ireturn, 1) := by decide +kernel
theorem dX5_weightIn_41 : decode cX5_weightIn 41 = .ok (.aload_n 0, 1) := by decide +kernel
theorem dX5_weightIn_42 : decode cX5_weightIn 42 = .ok (.getfield 20, 3) := by decide +kernel
theorem dX5_weightIn_45 : decode cX5_weightIn 45 = .ok (.iload_n 1, 1) := by decide +kernel
theorem dX5_weightIn_46 : decode cX5_weightIn 46 = .ok (.aaload, 1) := by decide +kernel
theorem dX5_weightIn_47 : decode cX5_weightIn 47 = .ok (.iload_n 2, 1) := by decide +kernel
theorem dX5_weightIn_48 : decode cX5_weightIn 48 = .ok (.iaload, 1) := by decide +kernel
theorem dX5_weightIn_49 : decode cX5_weightIn 49 = .ok (.ifCond .ge 8, 3) := by decide +kernel
theorem dX5_weightIn_52 : decode cX5_weightIn 52 = .ok (.bipush (-9), 2) := by decide +kernel
theorem dX5_weightIn_54 : decode cX5_weightIn 54 = .ok (.goto 23, 3) := by decide +kernel
theorem dX5_weightIn_57 : decode cX5_weightIn 57 = .ok (.aload_n 0, 1) := by decide +kernel
theorem dX5_weightIn_58 : decode cX5_weightIn 58 = .ok (.getfield 20, 3) := by decide +kernel
theorem dX5_weightIn_61 : decode cX5_weightIn 61 = .ok (.iload_n 1, 1) := by decide +kernel
theorem dX5_weightIn_62 : decode cX5_weightIn 62 = .ok (.aaload, 1) := by decide +kernel
theorem dX5_weightIn_63 : decode cX5_weightIn 63 = .ok (.iload_n 2, 1) := by decide +kernel
theorem dX5_weightIn_64 : decode cX5_weightIn 64 = .ok (.iaload, 1) := by decide +kernel
theorem dX5_weightIn_65 : decode cX5_weightIn 65 = .ok (.aload_n 0, 1) := by decide +kernel
theorem dX5_weightIn_66 : decode cX5_weightIn 66 = .ok (.getfield 23, 3) := by decide +kernel
theorem dX5_weightIn_69 : decode cX5_weightIn 69 = .ok (.iload_n 1, 1) := by decide +kernel
theorem dX5_weightIn_70 : decode cX5_weightIn 70 = .ok (.aaload, 1) := by decide +kernel
theorem dX5_weightIn_71 : decode cX5_weightIn 71 = .ok (.iload_n 2, 1) := by decide +kernel
theorem dX5_weightIn_72 : decode cX5_weightIn 72 = .ok (.iaload, 1) := by decide +kernel
theorem dX5_weightIn_73 : decode cX5_weightIn 73 = .ok (.iload_n 3, 1) := by decide +kernel
theorem dX5_weightIn_74 : decode cX5_weightIn 74 = .ok (.invokestatic 45, 3) := by decide +kernel
theorem dX5_weightIn_77 : decode cX5_weightIn 77 = .ok (.ireturn, 1) := by decide +kernel
theorem dX5_copy_0 : decode cX5_copy 0 = .ok (.iload_n 1, 1) := by decide +kernel
theorem dX5_copy_1 : decode cX5_copy 1 = .ok (.invokestatic 26, 3) := by decide +kernel
theorem dX5_copy_4 : decode cX5_copy 4 = .ok (.ifCond .eq 10, 3) := by decide +kernel
theorem dX5_copy_7 : decode cX5_copy 7 = .ok (.iload_n 2, 1) := by decide +kernel
theorem dX5_copy_8 : decode cX5_copy 8 = .ok (.invokestatic 26, 3) := by decide +kernel
theorem dX5_copy_11 : decode cX5_copy 11 = .ok (.ifCond .ne 5, 3) := by decide +kernel
theorem dX5_copy_14 : decode cX5_copy 14 = .ok (.iconst (-1), 1) := by decide +kernel
theorem dX5_copy_15 : decode cX5_copy 15 = .ok (.ireturn, 1) := by decide +kernel
theorem dX5_copy_16 : decode cX5_copy 16 = .ok (.aload_n 0, 1) := by decide +kernel
theorem dX5_copy_17 : decode cX5_copy 17 = .ok (.getfield 9, 3) := by decide +kernel
theorem dX5_copy_20 : decode cX5_copy 20 = .ok (.iload_n 2, 1) := by decide +kernel
theorem dX5_copy_21 : decode cX5_copy 21 = .ok (.iaload, 1) := by decide +kernel
theorem dX5_copy_22 : decode cX5_copy 22 = .ok (.ifCond .ge 6, 3) := by decide +kernel
theorem dX5_copy_25 : decode cX5_copy 25 = .ok (.bipush (-11), 2) := by decide +kernel
theorem dX5_copy_27 : decode cX5_copy 27 = .ok (.ireturn, 1) := by decide +kernel
theorem dX5_copy_28 : decode cX5_copy 28 = .ok (.iconst 0, 1) := by decide +kernel
theorem dX5_copy_29 : decode cX5_copy 29 = .ok (.istore_n 3, 1) := by decide +kernel
theorem dX5_copy_30 : decode cX5_copy 30 = .ok (.iload_n 3, 1) := by decide +kernel
theorem dX5_copy_31 : decode cX5_copy 31 = .ok (.aload_n 0, 1) := by decide +kernel
theorem dX5_copy_32 : decode cX5_copy 32 = .ok (.getfield 9, 3) := by decide +kernel
theorem dX5_copy_35 : decode cX5_copy 35 = .ok (.iload_n 2, 1) := by decide +kernel
theorem dX5_copy_36 : decode cX5_copy 36 = .ok (.iaload, 1) := by decide +kernel
theorem dX5_copy_37 : decode cX5_copy 37 = .ok (.if_icmp .ge 41, 3) := by decide +kernel
theorem dX5_copy_40 : decode cX5_copy 40 = .ok (.aload_n 0, 1) := by decide +kernel
theorem dX5_copy_41 : decode cX5_copy 41 = .ok (.getfield 20, 3) := by decide +kernel
theorem dX5_copy_44 : decode cX5_copy 44 = .ok (.iload_n 1, 1) := by decide +kernel
theorem dX5_copy_45 : decode cX5_copy 45 = .ok (.aaload, 1) := by decide +kernel
theorem dX5_copy_46 : decode cX5_copy 46 = .ok (.iload_n 3, 1) := by decide +kernel
theorem dX5_copy_47 : decode cX5_copy 47 = .ok (.aload_n 0, 1) := by decide +kernel
theorem dX5_copy_48 : decode cX5_copy 48 = .ok (.getfield 20, 3) := by decide +kernel
theorem dX5_copy_51 : decode cX5_copy 51 = .ok (.iload_n 2, 1) := by decide +kernel
theorem dX5_copy_52 : decode cX5_copy 52 = .ok (.aaload, 1) := by decide +kernel
theorem dX5_copy_53 : decode cX5_copy 53 = .ok (.iload_n 3, 1) := by decide +kernel
theorem dX5_copy_54 : decode cX5_copy 54 = .ok (.iaload, 1) := by decide +kernel
theorem dX5_copy_55 : decode cX5_copy 55 = .ok (.iastore, 1) := by decide +kernel
theorem dX5_copy_56 : decode cX5_copy 56 = .ok (.aload_n 0, 1) := by decide +kernel
theorem dX5_copy_57 : decode cX5_copy 57 = .ok (.getfield 23, 3) := by decide +kernel
theorem dX5_copy_60 : decode cX5_copy 60 = .ok (.iload_n 1, 1) := by decide +kernel
theorem dX5_copy_61 : decode cX5_copy 61 = .ok (.aaload, 1) := by decide +kernel
theorem dX5_copy_62 : decode cX5_copy 62 = .ok (.iload_n 3, 1) := by decide +kernel
theorem dX5_copy_63 : decode cX5_copy 63 = .ok (.aload_n 0, 1) := by decide +kernel
theorem dX5_copy_64 : decode cX5_copy 64 = .ok (.getfield 23, 3) := by decide +kernel
theorem dX5_copy_67 : decode cX5_copy 67 = .ok (.iload_n 2, 1) := by decide +kernel
theorem dX5_copy_68 : decode cX5_copy 68 = .ok (.aaload, 1) := by decide +kernel
theorem dX5_copy_69 : decode cX5_copy 69 = .ok (.iload_n 3, 1) := by decide +kernel
theorem dX5_copy_70 : decode cX5_copy 70 = .ok (.iaload, 1) := by decide +kernel
theorem dX5_copy_71 : decode cX5_copy 71 = .ok (.iastore, 1) := by decide +kernel
theorem dX5_copy_72 : decode cX5_copy 72 = .ok (.iinc 3 1, 3) := by decide +kernel
theorem dX5_copy_75 : decode cX5_copy 75 = .ok (.goto (-45), 3) := by decide +kernel
theorem dX5_copy_78 : decode cX5_copy 78 = .ok (.aload_n 0, 1) := by decide +kernel
theorem dX5_copy_79 : decode cX5_copy 79 = .ok (.getfield 15, 3) := by decide +kernel
theorem dX5_copy_82 : decode cX5_copy 82 = .ok (.iload_n 1, 1) := by decide +kernel
theorem dX5_copy_83 : decode cX5_copy 83 = .ok (.aload_n 0, 1) := by decide +kernel
theorem dX5_copy_84 : decode cX5_copy 84 = .ok (.getfield 15, 3) := by decide +kernel
theorem dX5_copy_87 : decode cX5_copy 87 = .ok (.iload_n 2, 1) := by decide +kernel
theorem dX5_copy_88 : decode cX5_copy 88 = .ok (.iaload, 1) := by decide +kernel
theorem dX5_copy_89 : decode cX5_copy 89 = .ok (.iastore, 1) := by decide +kernel
theorem dX5_copy_90 : decode cX5_copy 90 = .ok (.aload_n 0, 1) := by decide +kernel
theorem dX5_copy_91 : decode cX5_copy 91 = .ok (.getfield 9, 3) := by decide +kernel
theorem dX5_copy_94 : decode cX5_copy 94 = .ok (.iload_n 1, 1) := by decide +kernel
theorem dX5_copy_95 : decode cX5_copy 95 = .ok (.aload_n 0, 1) := by decide +kernel
theorem dX5_copy_96 : decode cX5_copy 96 = .ok (.getfield 9, 3) := by decide +kernel
theorem dX5_copy_99 : decode cX5_copy 99 = .ok (.iload_n 2, 1) := by decide +kernel
theorem dX5_copy_100 : decode cX5_copy 100 = .ok (.iaload, 1) := by decide +kernel
theorem dX5_copy_101 : decode cX5_copy 101 = .ok (.iastore, 1) := by decide +kernel
theorem dX5_copy_102 : decode cX5_copy 102 = .ok (.aload_n 0, 1) := by decide +kernel
theorem dX5_copy_103 : decode cX5_copy 103 = .ok (.getfield 9, 3) := by decide +kernel
theorem dX5_copy_106 : decode cX5_copy 106 = .ok (.iload_n 1, 1) := by decide +kernel
theorem dX5_copy_107 : decode cX5_copy 107 = .ok (.iaload, 1) := by decide +kernel
theorem dX5_copy_108 : decode cX5_copy 108 = .ok (.ireturn, 1) := by decide +kernel
theorem dX5_isSlot_0 : decode cX5_isSlot 0 = .ok (.iload_n 0, 1) := by decide +kernel
theorem dX5_isSlot_1 : decode cX5_isSlot 1 = .ok (.ifCond .lt 12, 3) := by decide +kernel
theorem dX5_isSlot_4 : decode cX5_isSlot 4 = .ok (.iload_n 0, 1) := by decide +kernel
theorem dX5_isSlot_5 : decode cX5_isSlot 5 = .ok (.iconst 3, 1) := by decide +kernel
theorem dX5_isSlot_6 : decode cX5_isSlot 6 = .ok (.if_icmp .ge 7, 3) := by decide +kernel
theorem dX5_isSlot_9 : decode cX5_isSlot 9 = .ok (.iconst 1, 1) := by decide +kernel
theorem dX5_isSlot_10 : decode cX5_isSlot 10 = .ok (.goto 4, 3) := by decide +kernel
theorem dX5_isSlot_13 : decode cX5_isSlot 13 = .ok (.iconst 0, 1) := by decide +kernel
theorem dX5_isSlot_14 : decode cX5_isSlot 14 = .ok (.ireturn, 1) := by decide +kernel
theorem dX5_refusalOfPlace_0 : decode cX5_refusalOfPlace 0 = .ok (.aload_n 0, 1) := by decide +kernel
theorem dX5_refusalOfPlace_1 : decode cX5_refusalOfPlace 1 = .ok (.getfield 9, 3) := by decide +kernel
theorem dX5_refusalOfPlace_4 : decode cX5_refusalOfPlace 4 = .ok (.iload_n 1, 1) := by decide +kernel
theorem dX5_refusalOfPlace_5 : decode cX5_refusalOfPlace 5 = .ok (.iaload, 1) := by decide +kernel
theorem dX5_refusalOfPlace_6 : decode cX5_refusalOfPlace 6 = .ok (.ifCond .ge 6, 3) := by decide +kernel
theorem dX5_refusalOfPlace_9 : decode cX5_refusalOfPlace 9 = .ok (.bipush (-11), 2) := by decide +kernel
theorem dX5_refusalOfPlace_11 : decode cX5_refusalOfPlace 11 = .ok (.ireturn, 1) := by decide +kernel
theorem dX5_refusalOfPlace_12 : decode cX5_refusalOfPlace 12 = .ok (.iload_n 2, 1) := by decide +kernel
theorem dX5_refusalOfPlace_13 : decode cX5_refusalOfPlace 13 = .ok (.ifCond .lt 17, 3) := by decide +kernel
theorem dX5_refusalOfPlace_16 : decode cX5_refusalOfPlace 16 = .ok (.iload_n 2, 1) := by decide +kernel
theorem dX5_refusalOfPlace_17 : decode cX5_refusalOfPlace 17 = .ok (.aload_n 0, 1) := by decide +kernel
theorem dX5_refusalOfPlace_18 : decode cX5_refusalOfPlace 18 = .ok (.getfield 9, 3) := by decide +kernel
theorem dX5_refusalOfPlace_21 : decode cX5_refusalOfPlace 21 = .ok (.iload_n 1, 1) := by decide +kernel
theorem dX5_refusalOfPlace_22 : decode cX5_refusalOfPlace 22 = .ok (.iaload, 1) := by decide +kernel
theorem dX5_refusalOfPlace_23 : decode cX5_refusalOfPlace 23 = .ok (.if_icmp .ge 7, 3) := by decide +kernel
theorem dX5_refusalOfPlace_26 : decode cX5_refusalOfPlace 26 = .ok (.iconst 0, 1) := by decide +kernel
theorem dX5_refusalOfPlace_27 : decode cX5_refusalOfPlace 27 = .ok (.goto 5, 3) := by decide +kernel
theorem dX5_refusalOfPlace_30 : decode cX5_refusalOfPlace 30 = .ok (.bipush (-13), 2) := by decide +kernel
theorem dX5_refusalOfPlace_32 : decode cX5_refusalOfPlace 32 = .ok (.ireturn, 1) := by decide +kernel
theorem dX6_init_0 : decode cX6_init 0 = .ok (.aload_n 0, 1) := by decide +kernel
theorem dX6_init_1 : decode cX6_init 1 = .ok (.invokespecial 3, 3) := by decide +kernel
theorem dX6_init_4 : decode cX6_init 4 = .ok (.aload_n 0, 1) := by decide +kernel
theorem dX6_init_5 : decode cX6_init 5 = .ok (.bipush 6, 2) := by decide +kernel
theorem dX6_init_7 : decode cX6_init 7 = .ok (.newarray .double, 2) := by decide +kernel
theorem dX6_init_9 : decode cX6_init 9 = .ok (.putfield 9, 3) := by decide +kernel
theorem dX6_init_12 : decode cX6_init 12 = .ok (.aload_n 0, 1) := by decide +kernel
theorem dX6_init_13 : decode cX6_init 13 = .ok (.bipush 6, 2) := by decide +kernel
theorem dX6_init_15 : decode cX6_init 15 = .ok (.newarray .double, 2) := by decide +kernel
theorem dX6_init_17 : decode cX6_init 17 = .ok (.putfield 15, 3) := by decide +kernel
theorem dX6_init_20 : decode cX6_init 20 = .ok (.aload_n 0, 1) := by decide +kernel
theorem dX6_init_21 : decode cX6_init 21 = .ok (.bipush 6, 2) := by decide +kernel
theorem dX6_init_23 : decode cX6_init 23 = .ok (.newarray .int, 2) := by decide +kernel
theorem dX6_init_25 : decode cX6_init 25 = .ok (.putfield 18, 3) := by decide +kernel
theorem dX6_init_28 : decode cX6_init 28 = .ok (.return_, 1) := by decide +kernel
theorem dX6_walk_0 : decode cX6_walk 0 = .ok (.aload_n 1, 1) := by decide +kernel
theorem dX6_walk_1 : decode cX6_walk 1 = .ok (.aload_n 0, 1) := by decide +kernel
theorem dX6_walk_2 : decode cX6_walk 2 = .ok (.getfield 18, 3) := by decide +kernel
theorem dX6_walk_5 : decode cX6_walk 5 = .ok (.invokevirtual 22, 3) := by decide +kernel
theorem dX6_walk_8 : decode cX6_walk 8 = .ok (.iconst 0, 1) := by decide +kernel
theorem dX6_walk_9 : decode cX6_walk 9 = .ok (.istore 4, 2) := by decide +kernel
theorem dX6_walk_11 : decode cX6_walk 11 = .ok (.iload 4, 2) := by decide +kernel
theorem dX6_walk_13 : decode cX6_walk 13 = .ok (.bipush 6, 2) := by decide +kernel
theorem dX6_walk_15 : decode cX6_walk 15 = .ok (.if_icmp .ge 27, 3) := by decide +kernel
theorem dX6_walk_18 : decode cX6_walk 18 = .ok (.aload_n 0, 1) := by decide +kernel
theorem dX6_walk_19 : decode cX6_walk 19 = .ok (.getfield 9, 3) := by decide +kernel
theorem dX6_walk_22 : decode cX6_walk 22 = .ok (.iload 4, 2) := by decide +kernel
theorem dX6_walk_24 : decode cX6_walk 24 = .ok (.iload 4, 2) := by decide +kernel
theorem dX6_walk_26 : decode cX6_walk 26 = .ok (.iload_n 2, 1) := by decide +kernel
theorem dX6_walk_27 : decode cX6_walk 27 = .ok (.if_icmp .ne 7, 3) := by decide +kernel
theorem dX6_walk_30 : decode cX6_walk 30 = .ok (.dconst 1, 1) := by decide +kernel
theorem dX6_walk_31 : decode cX6_walk 31 = .ok (.goto 4, 3) := by decide +kernel
theorem dX6_walk_34 : decode cX6_walk 34 = .ok (.dconst 0, 1) := by decide +kernel
theorem dX6_walk_35 : decode cX6_walk 35 = .ok (.dastore, 1) := by decide +kernel
theorem dX6_walk_36 : decode cX6_walk 36 = .ok (.iinc 4 1, 3) := by decide +kernel
theorem dX6_walk_39 : decode cX6_walk 39 = .ok (.goto (-28), 3) := by decide +kernel
theorem dX6_walk_42 : decode cX6_walk 42 = .ok (.iconst 0, 1) := by decide +kernel
theorem dX6_walk_43 : decode cX6_walk 43 = .ok (.istore 4, 2) := by decide +kernel
theorem dX6_walk_45 : decode cX6_walk 45 = .ok (.iload 4, 2) := by decide +kernel
theorem dX6_walk_47 : decode cX6_walk 47 = .ok (.iload_n 3, 1) := by decide +kernel
theorem dX6_walk_48 : decode cX6_walk 48 = .ok (.if_icmp .ge 78, 3) := by decide +kernel
theorem dX6_walk_51 : decode cX6_walk 51 = .ok (.iconst 0, 1) := by decide +kernel
theorem dX6_walk_52 : decode cX6_walk 52 = .ok (.istore 5, 2) := by decide +kernel
theorem dX6_walk_54 : decode cX6_walk 54 = .ok (.iload 5, 2) := by decide +kernel
theorem dX6_walk_56 : decode cX6_walk 56 = .ok (.bipush 6, 2) := by decide +kernel
theorem dX6_walk_58 : decode cX6_walk 58 = .ok (.if_icmp .ge 17, 3) := by decide +kernel
theorem dX6_walk_61 : decode cX6_walk 61 = .ok (.aload_n 0, 1) := by decide +kernel
theorem dX6_walk_62 : decode cX6_walk 62 = .ok (.getfield 15, 3) := by decide +kernel
theorem dX6_walk_65 : decode cX6_walk 65 = .ok (.iload 5, 2) := by decide +kernel
theorem dX6_walk_67 : decode cX6_walk 67 = .ok (.dconst 0, 1) := by decide +kernel
theorem dX6_walk_68 : decode cX6_walk 68 = .ok (.dastore, 1) := by decide +kernel
theorem dX6_walk_69 : decode cX6_walk 69 = .ok (.iinc 5 1, 3) := by decide +kernel
theorem dX6_walk_72 : decode cX6_walk 72 = .ok (.goto (-18), 3) := by decide +kernel
theorem dX6_walk_75 : decode cX6_walk 75 = .ok (.iconst 0, 1) := by decide +kernel
theorem dX6_walk_76 : decode cX6_walk 76 = .ok (.istore 5, 2) := by decide +kernel
theorem dX6_walk_78 : decode cX6_walk 78 = .ok (.iload 5, 2) := by decide +kernel
theorem dX6_walk_80 : decode cX6_walk 80 = .ok (.aload_n 1, 1) := by decide +kernel
theorem dX6_walk_81 : decode cX6_walk 81 = .ok (.getfield 28, 3) := by decide +kernel
theorem dX6_walk_84 : decode cX6_walk 84 = .ok (.if_icmp .ge 16, 3) := by decide +kernel
theorem dX6_walk_87 : decode cX6_walk 87 = .ok (.aload_n 0, 1) := by decide +kernel
theorem dX6_walk_88 : decode cX6_walk 88 = .ok (.aload_n 1, 1) := by decide +kernel
theorem dX6_walk_89 : decode cX6_walk 89 = .ok (.iload 5, 2) := by decide +kernel
theorem dX6_walk_91 : decode cX6_walk 91 = .ok (.invokevirtual 32, 3) := by decide +kernel
theorem dX6_walk_94 : decode cX6_walk 94 = .ok (.iinc 5 1, 3) := by decide +kernel
theorem dX6_walk_97 : decode cX6_walk 97 = .ok (.goto (-19), 3) := by decide +kernel
theorem dX6_walk_100 : decode cX6_walk 100 = .ok (.aload_n 0, 1) := by decide +kernel
theorem dX6_walk_101 : decode cX6_walk 101 = .ok (.getfield 9, 3) := by decide +kernel
theorem dX6_walk_104 : decode cX6_walk 104 = .ok (.astore 5, 2) := by decide +kernel
theorem dX6_walk_106 : decode cX6_walk 106 = .ok (.aload_n 0, 1) := by decide +kernel
theorem dX6_walk_107 : decode cX6_walk 107 = .ok (.aload_n 0, 1) := by decide +kernel
theorem dX6_walk_108 : decode cX6_walk 108 = .ok (.getfield 15, 3) := by decide +kernel
theorem dX6_walk_111 : decode cX6_walk 111 = .ok (.putfield 9, 3) := by decide +kernel
theorem dX6_walk_114 : decode cX6_walk 114 = .ok (.aload_n 0, 1) := by decide +kernel
theorem dX6_walk_115 : decode cX6_walk 115 = .ok (.aload 5, 2) := by decide +kernel
theorem dX6_walk_117 : decode cX6_walk 117 = .ok (.putfield 15, 3) := by decide +kernel
theorem dX6_walk_120 : decode cX6_walk 120 = .ok (.iinc 4 1, 3) := by decide +kernel
theorem dX6_walk_123 : decode cX6_walk 123 = .ok (.goto (-78), 3) := by decide +kernel
theorem dX6_walk_126 : decode cX6_walk 126 = .ok (.return_, 1) := by decide +kernel
theorem dX6_goOnFrom_0 : decode cX6_goOnFrom 0 = .ok (.aload_n 0, 1) := by decide +kernel
theorem dX6_goOnFrom_1 : decode cX6_goOnFrom 1 = .ok (.getfield 18, 3) := by decide +kernel
theorem dX6_goOnFrom_4 : decode cX6_goOnFrom 4 = .ok (.iload_n 2, 1) := by decide +kernel
theorem dX6_goOnFrom_5 : decode cX6_goOnFrom 5 = .ok (.iaload, 1) := by decide +kernel
theorem dX6_goOnFrom_6 : decode cX6_goOnFrom 6 = .ok (.ifCond .gt 19, 3) := by decide +kernel
theorem dX6_goOnFrom_9 : decode cX6_goOnFrom 9 = .ok (.aload_n 0, 1) := by decide +kernel
theorem dX6_goOnFrom_10 : decode cX6_goOnFrom 10 = .ok (.getfield 15, 3) := by decide +kernel
theorem dX6_goOnFrom_13 : decode cX6_goOnFrom 13 = .ok (.iload_n 2, 1) := by decide +kernel
theorem dX6_goOnFrom_14 : decode cX6_goOnFrom 14 = .ok (.dup2, 1) := by decide +kernel
theorem dX6_goOnFrom_15 : decode cX6_goOnFrom 15 = .ok (.daload, 1) := by decide +kernel
theorem dX6_goOnFrom_16 : decode cX6_goOnFrom 16 = .ok (.aload_n 0, 1) := by decide +kernel
theorem dX6_goOnFrom_17 : decode cX6_goOnFrom 17 = .ok (.getfield 9, 3) := by decide +kernel
theorem dX6_goOnFrom_20 : decode cX6_goOnFrom 20 = .ok (.iload_n 2, 1) := by decide +kernel
theorem dX6_goOnFrom_21 : decode cX6_goOnFrom 21 = .ok (.daload, 1) := by decide +kernel
theorem dX6_goOnFrom_22 : decode cX6_goOnFrom 22 = .ok (.dadd, 1) := by decide +kernel
theorem dX6_goOnFrom_23 : decode cX6_goOnFrom 23 = .ok (.dastore, 1) := by decide +kernel
theorem dX6_goOnFrom_24 : decode cX6_goOnFrom 24 = .ok (.return_, 1) := by decide +kernel
theorem dX6_goOnFrom_25 : decode cX6_goOnFrom 25 = .ok (.iconst 0, 1) := by decide +kernel
theorem dX6_goOnFrom_26 : decode cX6_goOnFrom 26 = .ok (.istore_n 3, 1) := by decide +kernel
theorem dX6_goOnFrom_27 : decode cX6_goOnFrom 27 = .ok (.iload_n 3, 1) := by decide +kernel
theorem dX6_goOnFrom_28 : decode cX6_goOnFrom 28 = .ok (.aload_n 1, 1) := by decide +kernel
theorem dX6_goOnFrom_29 : decode cX6_goOnFrom 29 = .ok (.getfield 36, 3) := by decide +kernel
theorem dX6_goOnFrom_32 : decode cX6_goOnFrom 32 = .ok (.if_icmp .ge 53, 3) := by decide +kernel
theorem dX6_goOnFrom_35 : decode cX6_goOnFrom 35 = .ok (.aload_n 1, 1) := by decide +kernel
theorem dX6_goOnFrom_36 : decode cX6_goOnFrom 36 = .ok (.iload_n 3, 1) := by decide +kernel
theorem dX6_goOnFrom_37 : decode cX6_goOnFrom 37 = .ok (.iload_n 2, 1) := by decide +kernel
theorem dX6_goOnFrom_38 : decode cX6_goOnFrom 38 = .ok (.invokevirtual 39, 3) := by decide +kernel
theorem dX6_goOnFrom_41 : decode cX6_goOnFrom 41 = .ok (.ifCond .eq 38, 3) := by decide +kernel
theorem dX6_goOnFrom_44 : decode cX6_goOnFrom 44 = .ok (.aload_n 0, 1) := by decide +kernel
theorem dX6_goOnFrom_45 : decode cX6_goOnFrom 45 = .ok (.getfield 15, 3) := by decide +kernel
theorem dX6_goOnFrom_48 : decode cX6_goOnFrom 48 = .ok (.aload_n 1, 1) := by decide +kernel
theorem dX6_goOnFrom_49 : decode cX6_goOnFrom 49 = .ok (.iload_n 3, 1) := by decide +kernel
theorem dX6_goOnFrom_50 : decode cX6_goOnFrom 50 = .ok (.iload_n 2, 1) := by decide +kernel
theorem dX6_goOnFrom_51 : decode cX6_goOnFrom 51 = .ok (.invokevirtual 43, 3) := by decide +kernel
theorem dX6_goOnFrom_54 : decode cX6_goOnFrom 54 = .ok (.dup2, 1) := by decide +kernel
theorem dX6_goOnFrom_55 : decode cX6_goOnFrom 55 = .ok (.daload, 1) := by decide +kernel
theorem dX6_goOnFrom_56 : decode cX6_goOnFrom 56 = .ok (.aload_n 0, 1) := by decide +kernel
theorem dX6_goOnFrom_57 : decode cX6_goOnFrom 57 = .ok (.getfield 9, 3) := by decide +kernel
theorem dX6_goOnFrom_60 : decode cX6_goOnFrom 60 = .ok (.iload_n 2, 1) := by decide +kernel
theorem dX6_goOnFrom_61 : decode cX6_goOnFrom 61 = .ok (.daload, 1) := by decide +kernel
theorem dX6_goOnFrom_62 : decode cX6_goOnFrom 62 = .ok (.aload_n 1, 1) := by decide +kernel
theorem dX6_goOnFrom_63 : decode cX6_goOnFrom 63 = .ok (.iload_n 3, 1) := by decide +kernel
theorem dX6_goOnFrom_64 : decode cX6_goOnFrom 64 = .ok (.invokevirtual 47, 3) := by decide +kernel
theorem dX6_goOnFrom_67 : decode cX6_goOnFrom 67 = .ok (.i2d, 1) := by decide +kernel
theorem dX6_goOnFrom_68 : decode cX6_goOnFrom 68 = .ok (.dmul, 1) := by decide +kernel
theorem dX6_goOnFrom_69 : decode cX6_goOnFrom 69 = .ok (.aload_n 0, 1) := by decide +kernel
theorem dX6_goOnFrom_70 : decode cX6_goOnFrom 70 = .ok (.getfield 18, 3) := by decide +kernel
theorem dX6_goOnFrom_73 : decode cX6_goOnFrom 73 = .ok (.iload_n 2, 1) := by decide +kernel
theorem dX6_goOnFrom_74 : decode cX6_goOnFrom 74 = .ok (.iaload, 1) := by decide +kernel
theorem dX6_goOnFrom_75 : decode cX6_goOnFrom 75 = .ok (.i2d, 1) := by decide +kernel
theorem dX6_goOnFrom_76 : decode cX6_goOnFrom 76 = .ok (.ddiv, 1) := by decide +kernel
theorem dX6_goOnFrom_77 : decode cX6_goOnFrom 77 = .ok (.dadd, 1) := by decide +kernel
theorem dX6_goOnFrom_78 : decode cX6_goOnFrom 78 = .ok (.dastore, 1) := by decide +kernel
theorem dX6_goOnFrom_79 : decode cX6_goOnFrom 79 = .ok (.iinc 3 1, 3) := by decide +kernel
theorem dX6_goOnFrom_82 : decode cX6_goOnFrom 82 = .ok (.goto (-55), 3) := by decide +kernel
theorem dX6_goOnFrom_85 : decode cX6_goOnFrom 85 = .ok (.return_, 1) := by decide +kernel
theorem dX7_init_0 : decode cX7_init 0 = .ok (.aload_n 0, 1) := by decide +kernel
theorem dX7_init_1 : decode cX7_init 1 = .ok (.invokespecial 3, 3) := by decide +kernel
theorem dX7_init_4 : decode cX7_init 4 = .ok (.aload_n 0, 1) := by decide +kernel
theorem dX7_init_5 : decode cX7_init 5 = .ok (.iconst 0, 1) := by decide +kernel
theorem dX7_init_6 : decode cX7_init 6 = .ok (.putfield 9, 3) := by decide +kernel
theorem dX7_init_9 : decode cX7_init 9 = .ok (.aload_n 0, 1) := by decide +kernel
theorem dX7_init_10 : decode cX7_init 10 = .ok (.bipush 120, 2) := by decide +kernel
theorem dX7_init_12 : decode cX7_init 12 = .ok (.newarray .int, 2) := by decide +kernel
theorem dX7_init_14 : decode cX7_init 14 = .ok (.putfield 15, 3) := by decide +kernel
theorem dX7_init_17 : decode cX7_init 17 = .ok (.return_, 1) := by decide +kernel
theorem dX7_take_0 : decode cX7_take 0 = .ok (.iload_n 1, 1) := by decide +kernel
theorem dX7_take_1 : decode cX7_take 1 = .ok (.iconst 0, 1) := by decide +kernel
theorem dX7_take_2 : decode cX7_take 2 = .ok (.sipush 255, 3) := by decide +kernel
theorem dX7_take_5 : decode cX7_take 5 = .ok (.invokestatic 19, 3) := by decide +kernel
theorem dX7_take_8 : decode cX7_take 8 = .ok (.istore_n 2, 1) := by decide +kernel
theorem dX7_take_9 : decode cX7_take 9 = .ok (.iload_n 2, 1) := by decide +kernel
theorem dX7_take_10 : decode cX7_take 10 = .ok (.ifCond .ne 15, 3) := by decide +kernel
theorem dX7_take_13 : decode cX7_take 13 = .ok (.aload_n 0, 1) := by decide +kernel
theorem dX7_take_14 : decode cX7_take 14 = .ok (.getfield 9, 3) := by decide +kernel
theorem dX7_take_17 : decode cX7_take 17 = .ok (.bipush 120, 2) := by decide +kernel
theorem dX7_take_19 : decode cX7_take 19 = .ok (.if_icmp .lt 6, 3) := by decide +kernel
theorem dX7_take_22 : decode cX7_take 22 = .ok (.bipush (-6), 2) := by decide +kernel
theorem dX7_take_24 : decode cX7_take 24 = .ok (.istore_n 2, 1) := by decide +kernel
theorem dX7_take_25 : decode cX7_take 25 = .ok (.iload_n 2, 1) := by decide +kernel
theorem dX7_take_26 : decode cX7_take 26 = .ok (.ifCond .eq 5, 3) := by decide +kernel
theorem dX7_take_29 : decode cX7_take 29 = .ok (.iload_n 2, 1) := by decide +kernel
theorem dX7_take_30 : decode cX7_take 30 = .ok (.ireturn, 1) := by decide +kernel
theorem dX7_take_31 : decode cX7_take 31 = .ok (.aload_n 0, 1) := by decide +kernel
theorem dX7_take_32 : decode cX7_take 32 = .ok (.getfield 15, 3) := by decide +kernel
theorem dX7_take_35 : decode cX7_take 35 = .ok (.aload_n 0, 1) := by decide +kernel
theorem dX7_take_36 : decode cX7_take 36 = .ok (.getfield 9, 3) := by decide +kernel
theorem dX7_take_39 : decode cX7_take 39 = .ok (.iload_n 1, 1) := by decide +kernel
theorem dX7_take_40 : decode cX7_take 40 = .ok (.iastore, 1) := by decide +kernel
theorem dX7_take_41 : decode cX7_take 41 = .ok (.aload_n 0, 1) := by decide +kernel
theorem dX7_take_42 : decode cX7_take 42 = .ok (.dup, 1) := by decide +kernel
theorem dX7_take_43 : decode cX7_take 43 = .ok (.getfield 9, 3) := by decide +kernel
theorem dX7_take_46 : decode cX7_take 46 = .ok (.iconst 1, 1) := by decide +kernel
theorem dX7_take_47 : decode cX7_take 47 = .ok (.iadd, 1) := by decide +kernel
theorem dX7_take_48 : decode cX7_take 48 = .ok (.putfield 9, 3) := by decide +kernel
theorem dX7_take_51 : decode cX7_take 51 = .ok (.aload_n 0, 1) := by decide +kernel
theorem dX7_take_52 : decode cX7_take 52 = .ok (.getfield 9, 3) := by decide +kernel
theorem dX7_take_55 : decode cX7_take 55 = .ok (.ireturn, 1) := by decide +kernel
theorem dX7_tellOnto_0 : decode cX7_tellOnto 0 = .ok (.aload_n 0, 1) := by decide +kernel
theorem dX7_tellOnto_1 : decode cX7_tellOnto 1 = .ok (.invokevirtual 23, 3) := by decide +kernel
theorem dX7_tellOnto_4 : decode cX7_tellOnto 4 = .ok (.istore_n 2, 1) := by decide +kernel
theorem dX7_tellOnto_5 : decode cX7_tellOnto 5 = .ok (.iload_n 2, 1) := by decide +kernel
theorem dX7_tellOnto_6 : decode cX7_tellOnto 6 = .ok (.ifCond .lt 11, 3) := by decide +kernel
theorem dX7_tellOnto_9 : decode cX7_tellOnto 9 = .ok (.sipush (-1000), 3) := by decide +kernel
theorem dX7_tellOnto_12 : decode cX7_tellOnto 12 = .ok (.iload_n 2, 1) := by decide +kernel
theorem dX7_tellOnto_13 : decode cX7_tellOnto 13 = .ok (.isub, 1) := by decide +kernel
theorem dX7_tellOnto_14 : decode cX7_tellOnto 14 = .ok (.goto 8, 3) := by decide +kernel
theorem dX7_tellOnto_17 : decode cX7_tellOnto 17 = .ok (.aload_n 0, 1) := by decide +kernel
theorem dX7_tellOnto_18 : decode cX7_tellOnto 18 = .ok (.aload_n 1, 1) := by decide +kernel
theorem dX7_tellOnto_19 : decode cX7_tellOnto 19 = .ok (.invokevirtual 27, 3) := by decide +kernel
theorem dX7_tellOnto_22 : decode cX7_tellOnto 22 = .ok (.istore_n 3, 1) := by decide +kernel
theorem dX7_tellOnto_23 : decode cX7_tellOnto 23 = .ok (.aload_n 0, 1) := by decide +kernel
theorem dX7_tellOnto_24 : decode cX7_tellOnto 24 = .ok (.iconst 0, 1) := by decide +kernel
theorem dX7_tellOnto_25 : decode cX7_tellOnto 25 = .ok (.putfield 9, 3) := by decide +kernel
theorem dX7_tellOnto_28 : decode cX7_tellOnto 28 = .ok (.iload_n 3, 1) := by decide +kernel
theorem dX7_tellOnto_29 : decode cX7_tellOnto 29 = .ok (.ireturn, 1) := by decide +kernel
theorem dX7_faultOfForm_0 : decode cX7_faultOfForm 0 = .ok (.iconst 0, 1) := by decide +kernel
theorem dX7_faultOfForm_1 : decode cX7_faultOfForm 1 = .ok (.istore_n 1, 1) := by decide +kernel
theorem dX7_faultOfForm_2 : decode cX7_faultOfForm 2 = .ok (.iconst 0, 1) := by decide +kernel
theorem dX7_faultOfForm_3 : decode cX7_faultOfForm 3 = .ok (.istore_n 2, 1) := by decide +kernel
theorem dX7_faultOfForm_4 : decode cX7_faultOfForm 4 = .ok (.iload_n 2, 1) := by decide +kernel
theorem dX7_faultOfForm_5 : decode cX7_faultOfForm 5 = .ok (.bipush 120, 2) := by decide +kernel
theorem dX7_faultOfForm_7 : decode cX7_faultOfForm 7 = .ok (.if_icmp .ge 73, 3) := by decide +kernel
theorem dX7_faultOfForm_10 : decode cX7_faultOfForm 10 = .ok (.iload_n 2, 1) := by decide +kernel
theorem dX7_faultOfForm_11 : decode cX7_faultOfForm 11 = .ok (.ifCond .eq 11, 3) := by decide +kernel
theorem dX7_faultOfForm_14 : decode cX7_faultOfForm 14 = .ok (.iload_n 1, 1) := by decide +kernel
theorem dX7_faultOfForm_15 : decode cX7_faultOfForm 15 = .ok (.aload_n 0, 1) := by decide +kernel
theorem dX7_faultOfForm_16 : decode cX7_faultOfForm 16 = .ok (.getfield 9, 3) := by decide +kernel
theorem dX7_faultOfForm_19 : decode cX7_faultOfForm 19 = .ok (.if_icmp .ge 61, 3) := by decide +kernel
theorem dX7_faultOfForm_22 : decode cX7_faultOfForm 22 = .ok (.aload_n 0, 1) := by decide +kernel
theorem dX7_faultOfForm_23 : decode cX7_faultOfForm 23 = .ok (.iload_n 1, 1) := by decide +kernel
theorem dX7_faultOfForm_24 : decode cX7_faultOfForm 24 = .ok (.invokevirtual 31, 3) := by decide +kernel
theorem dX7_faultOfForm_27 : decode cX7_faultOfForm 27 = .ok (.istore_n 3, 1) := by decide +kernel
theorem dX7_faultOfForm_28 : decode cX7_faultOfForm 28 = .ok (.iload_n 3, 1) := by decide +kernel
theorem dX7_faultOfForm_29 : decode cX7_faultOfForm 29 = .ok (.ifCond .ge 11, 3) := by decide +kernel
theorem dX7_faultOfForm_32 : decode cX7_faultOfForm 32 = .ok (.iload_n 1, 1) := by decide +kernel
theorem dX7_faultOfForm_33 : decode cX7_faultOfForm 33 = .ok (.aload_n 0, 1) := by decide +kernel
theorem dX7_faultOfForm_34 : decode cX7_faultOfForm 34 = .ok (.iload_n 1, 1) := by decide +kernel
theorem dX7_faultOfForm_35 : decode cX7_faultOfForm 35 = .ok (.invokevirtual 35, 3) := by decide +kernel
theorem dX7_faultOfForm_38 : decode cX7_faultOfForm 38 = .ok (.iadd, 1) := by decide +kernel
theorem dX7_faultOfForm_39 : decode cX7_faultOfForm 39 = .ok (.ireturn, 1) := by decide +kernel
theorem dX7_faultOfForm_40 : decode cX7_faultOfForm 40 = .ok (.aload_n 0, 1) := by decide +kernel
theorem dX7_faultOfForm_41 : decode cX7_faultOfForm 41 = .ok (.iload_n 1, 1) := by decide +kernel
theorem dX7_faultOfForm_42 : decode cX7_faultOfForm 42 = .ok (.iload_n 3, 1) := by decide +kernel
theorem dX7_faultOfForm_43 : decode cX7_faultOfForm 43 = .ok (.invokestatic 38, 3) := by decide +kernel
theorem dX7_faultOfForm_46 : decode cX7_faultOfForm 46 = .ok (.invokevirtual 42, 3) := by decide +kernel
theorem dX7_faultOfForm_49 : decode cX7_faultOfForm 49 = .ok (.iadd, 1) := by decide +kernel
theorem dX7_faultOfForm_50 : decode cX7_faultOfForm 50 = .ok (.iload_n 3, 1) := by decide +kernel
theorem dX7_faultOfForm_51 : decode cX7_faultOfForm 51 = .ok (.invokestatic 47, 3) := by decide +kernel
theorem dX7_faultOfForm_54 : decode cX7_faultOfForm 54 = .ok (.invokevirtual 50, 3) := by decide +kernel
theorem dX7_faultOfForm_57 : decode cX7_faultOfForm 57 = .ok (.istore 4, 2) := by decide +kernel
theorem dX7_faultOfForm_59 : decode cX7_faultOfForm 59 = .ok (.iload 4, 2) := by decide +kernel
theorem dX7_faultOfForm_61 : decode cX7_faultOfForm 61 = .ok (.ifCond .lt 6, 3) := by decide +kernel
theorem dX7_faultOfForm_64 : decode cX7_faultOfForm 64 = .ok (.iload 4, 2) := by decide +kernel
theorem dX7_faultOfForm_66 : decode cX7_faultOfForm 66 = .ok (.ireturn, 1) := by decide +kernel
theorem dX7_faultOfForm_67 : decode cX7_faultOfForm 67 = .ok (.aload_n 0, 1) := by decide +kernel
theorem dX7_faultOfForm_68 : decode cX7_faultOfForm 68 = .ok (.iload_n 1, 1) := by decide +kernel
theorem dX7_faultOfForm_69 : decode cX7_faultOfForm 69 = .ok (.iload_n 3, 1) := by decide +kernel
theorem dX7_faultOfForm_70 : decode cX7_faultOfForm 70 = .ok (.invokevirtual 54, 3) := by decide +kernel
theorem dX7_faultOfForm_73 : decode cX7_faultOfForm 73 = .ok (.istore_n 1, 1) := by decide +kernel
theorem dX7_faultOfForm_74 : decode cX7_faultOfForm 74 = .ok (.iinc 2 1, 3) := by decide +kernel
theorem dX7_faultOfForm_77 : decode cX7_faultOfForm 77 = .ok (.goto (-73), 3) := by decide +kernel
theorem dX7_faultOfForm_80 : decode cX7_faultOfForm 80 = .ok (.iconst (-1), 1) := by decide +kernel
theorem dX7_faultOfForm_81 : decode cX7_faultOfForm 81 = .ok (.ireturn, 1) := by decide +kernel
theorem dX7_faultOfNumbers_0 : decode cX7_faultOfNumbers 0 = .ok (.iload_n 1, 1) := by decide +kernel
theorem dX7_faultOfNumbers_1 : decode cX7_faultOfNumbers 1 = .ok (.istore_n 3, 1) := by decide +kernel
theorem dX7_faultOfNumbers_2 : decode cX7_faultOfNumbers 2 = .ok (.iconst 0, 1) := by decide +kernel
theorem dX7_faultOfNumbers_3 : decode cX7_faultOfNumbers 3 = .ok (.istore 4, 2) := by decide +kernel
theorem dX7_faultOfNumbers_5 : decode cX7_faultOfNumbers 5 = .ok (.iload 4, 2) := by decide +kernel
theorem dX7_faultOfNumbers_7 : decode cX7_faultOfNumbers 7 = .ok (.iload_n 2, 1) := by decide +kernel
theorem dX7_faultOfNumbers_8 : decode cX7_faultOfNumbers 8 = .ok (.if_icmp .ge 51, 3) := by decide +kernel
theorem dX7_faultOfNumbers_11 : decode cX7_faultOfNumbers 11 = .ok (.aload_n 0, 1) := by decide +kernel
theorem dX7_faultOfNumbers_12 : decode cX7_faultOfNumbers 12 = .ok (.iload_n 3, 1) := by decide +kernel
theorem dX7_faultOfNumbers_13 : decode cX7_faultOfNumbers 13 = .ok (.invokevirtual 57, 3) := by decide +kernel
theorem dX7_faultOfNumbers_16 : decode cX7_faultOfNumbers 16 = .ok (.bipush 32, 2) := by decide +kernel
theorem dX7_faultOfNumbers_18 : decode cX7_faultOfNumbers 18 = .ok (.if_icmp .eq 5, 3) := by decide +kernel
theorem dX7_faultOfNumbers_21 : decode cX7_faultOfNumbers 21 = .ok (.iload_n 3, 1) := by decide +kernel
theorem dX7_faultOfNumbers_22 : decode cX7_faultOfNumbers 22 = .ok (.ireturn, 1) := by decide +kernel
theorem dX7_faultOfNumbers_23 : decode cX7_faultOfNumbers 23 = .ok (.aload_n 0, 1) := by decide +kernel
theorem dX7_faultOfNumbers_24 : decode cX7_faultOfNumbers 24 = .ok (.iload_n 3, 1) := by decide +kernel
theorem dX7_faultOfNumbers_25 : decode cX7_faultOfNumbers 25 = .ok (.iconst 1, 1) := by decide +kernel
theorem dX7_faultOfNumbers_26 : decode cX7_faultOfNumbers 26 = .ok (.iadd, 1) := by decide +kernel
theorem dX7_faultOfNumbers_27 : decode cX7_faultOfNumbers 27 = .ok (.invokevirtual 57, 3) := by decide +kernel
theorem dX7_faultOfNumbers_30 : decode cX7_faultOfNumbers 30 = .ok (.istore 5, 2) := by decide +kernel
theorem dX7_faultOfNumbers_32 : decode cX7_faultOfNumbers 32 = .ok (.iload 5, 2) := by decide +kernel
theorem dX7_faultOfNumbers_34 : decode cX7_faultOfNumbers 34 = .ok (.bipush 48, 2) := by decide +kernel
theorem dX7_faultOfNumbers_36 : decode cX7_faultOfNumbers 36 = .ok (.if_icmp .lt 10, 3) := by decide +kernel
theorem dX7_faultOfNumbers_39 : decode cX7_faultOfNumbers 39 = .ok (.iload 5, 2) := by decide +kernel
theorem dX7_faultOfNumbers_41 : decode cX7_faultOfNumbers 41 = .ok (.bipush 57, 2) := by decide +kernel
theorem dX7_faultOfNumbers_43 : decode cX7_faultOfNumbers 43 = .ok (.if_icmp .le 7, 3) := by decide +kernel
theorem dX7_faultOfNumbers_46 : decode cX7_faultOfNumbers 46 = .ok (.iload_n 3, 1) := by decide +kernel
theorem dX7_faultOfNumbers_47 : decode cX7_faultOfNumbers 47 = .ok (.iconst 1, 1) := by decide +kernel
theorem dX7_faultOfNumbers_48 : decode cX7_faultOfNumbers 48 = .ok (.iadd, 1) := by decide +kernel
theorem dX7_faultOfNumbers_49 : decode cX7_faultOfNumbers 49 = .ok (.ireturn, 1) := by decide +kernel
theorem dX7_faultOfNumbers_50 : decode cX7_faultOfNumbers 50 = .ok (.iinc 3 2, 3) := by decide +kernel
theorem dX7_faultOfNumbers_53 : decode cX7_faultOfNumbers 53 = .ok (.iinc 4 1, 3) := by decide +kernel
theorem dX7_faultOfNumbers_56 : decode cX7_faultOfNumbers 56 = .ok (.goto (-51), 3) := by decide +kernel
theorem dX7_faultOfNumbers_59 : decode cX7_faultOfNumbers 59 = .ok (.aload_n 0, 1) := by decide +kernel
theorem dX7_faultOfNumbers_60 : decode cX7_faultOfNumbers 60 = .ok (.iload_n 3, 1) := by decide +kernel
theorem dX7_faultOfNumbers_61 : decode cX7_faultOfNumbers 61 = .ok (.invokevirtual 57, 3) := by decide +kernel
theorem dX7_faultOfNumbers_64 : decode cX7_faultOfNumbers 64 = .ok (.bipush 59, 2) := by decide +kernel
theorem dX7_faultOfNumbers_66 : decode cX7_faultOfNumbers 66 = .ok (.if_icmp .ne 7, 3) := by decide +kernel
theorem dX7_faultOfNumbers_69 : decode cX7_faultOfNumbers 69 = .ok (.iconst (-1), 1) := by decide +kernel
theorem dX7_faultOfNumbers_70 : decode cX7_faultOfNumbers 70 = .ok (.goto 4, 3) := by decide +kernel
theorem dX7_faultOfNumbers_73 : decode cX7_faultOfNumbers 73 = .ok (.iload_n 3, 1) := by decide +kernel
theorem dX7_faultOfNumbers_74 : decode cX7_faultOfNumbers 74 = .ok (.ireturn, 1) := by decide +kernel
theorem dX7_changeAll_0 : decode cX7_changeAll 0 = .ok (.iconst 0, 1) := by decide +kernel
theorem dX7_changeAll_1 : decode cX7_changeAll 1 = .ok (.istore_n 2, 1) := by decide +kernel
theorem dX7_changeAll_2 : decode cX7_changeAll 2 = .ok (.iconst 0, 1) := by decide +kernel
theorem dX7_changeAll_3 : decode cX7_changeAll 3 = .ok (.istore_n 3, 1) := by decide +kernel
theorem dX7_changeAll_4 : decode cX7_changeAll 4 = .ok (.iload_n 2, 1) := by decide +kernel
theorem dX7_changeAll_5 : decode cX7_changeAll 5 = .ok (.aload_n 0, 1) := by decide +kernel
theorem dX7_changeAll_6 : decode cX7_changeAll 6 = .ok (.getfield 9, 3) := by decide +kernel
theorem dX7_changeAll_9 : decode cX7_changeAll 9 = .ok (.if_icmp .ge 56, 3) := by decide +kernel
theorem dX7_changeAll_12 : decode cX7_changeAll 12 = .ok (.iload_n 3, 1) := by decide +kernel
theorem dX7_changeAll_13 : decode cX7_changeAll 13 = .ok (.bipush 120, 2) := by decide +kernel
theorem dX7_changeAll_15 : decode cX7_changeAll 15 = .ok (.if_icmp .ge 50, 3) := by decide +kernel
theorem dX7_changeAll_18 : decode cX7_changeAll 18 = .ok (.aload_n 0, 1) := by decide +kernel
theorem dX7_changeAll_19 : decode cX7_changeAll 19 = .ok (.iload_n 2, 1) := by decide +kernel
theorem dX7_changeAll_20 : decode cX7_changeAll 20 = .ok (.invokevirtual 31, 3) := by decide +kernel
theorem dX7_changeAll_23 : decode cX7_changeAll 23 = .ok (.istore 4, 2) := by decide +kernel
theorem dX7_changeAll_25 : decode cX7_changeAll 25 = .ok (.aload_n 0, 1) := by decide +kernel
theorem dX7_changeAll_26 : decode cX7_changeAll 26 = .ok (.aload_n 1, 1) := by decide +kernel
theorem dX7_changeAll_27 : decode cX7_changeAll 27 = .ok (.iload 4, 2) := by decide +kernel
theorem dX7_changeAll_29 : decode cX7_changeAll 29 = .ok (.iload_n 2, 1) := by decide +kernel
theorem dX7_changeAll_30 : decode cX7_changeAll 30 = .ok (.iload 4, 2) := by decide +kernel
theorem dX7_changeAll_32 : decode cX7_changeAll 32 = .ok (.invokestatic 38, 3) := by decide +kernel
theorem dX7_changeAll_35 : decode cX7_changeAll 35 = .ok (.invokevirtual 42, 3) := by decide +kernel
theorem dX7_changeAll_38 : decode cX7_changeAll 38 = .ok (.iadd, 1) := by decide +kernel
theorem dX7_changeAll_39 : decode cX7_changeAll 39 = .ok (.invokevirtual 60, 3) := by decide +kernel
theorem dX7_changeAll_42 : decode cX7_changeAll 42 = .ok (.ifCond .ge 9, 3) := by decide +kernel
theorem dX7_changeAll_45 : decode cX7_changeAll 45 = .ok (.sipush (-2000), 3) := by decide +kernel
theorem dX7_changeAll_48 : decode cX7_changeAll 48 = .ok (.iload_n 2, 1) := by decide +kernel
theorem dX7_changeAll_49 : decode cX7_changeAll 49 = .ok (.isub, 1) := by decide +kernel
theorem dX7_changeAll_50 : decode cX7_changeAll 50 = .ok (.ireturn, 1) := by decide +kernel
theorem dX7_changeAll_51 : decode cX7_changeAll 51 = .ok (.aload_n 0, 1) := by decide +kernel
theorem dX7_changeAll_52 : decode cX7_changeAll 52 = .ok (.iload_n 2, 1) := by decide +kernel
theorem dX7_changeAll_53 : decode cX7_changeAll 53 = .ok (.iload 4, 2) := by decide +kernel
theorem dX7_changeAll_55 : decode cX7_changeAll 55 = .ok (.invokevirtual 54, 3) := by decide +kernel
theorem dX7_changeAll_58 : decode cX7_changeAll 58 = .ok (.istore_n 2, 1) := by decide +kernel
theorem dX7_changeAll_59 : decode cX7_changeAll 59 = .ok (.iinc 3 1, 3) := by decide +kernel
theorem dX7_changeAll_62 : decode cX7_changeAll 62 = .ok (.goto (-58), 3) := by decide +kernel
theorem dX7_changeAll_65 : decode cX7_changeAll 65 = .ok (.iload_n 3, 1) := by decide +kernel
theorem dX7_changeAll_66 : decode cX7_changeAll 66 = .ok (.ireturn, 1) := by decide +kernel
theorem dX7_change_0 : decode cX7_change 0 = .ok (.aload_n 0, 1) := by decide +kernel
theorem dX7_change_1 : decode cX7_change 1 = .ok (.iload_n 3, 1) := by decide +kernel
theorem dX7_change_2 : decode cX7_change 2 = .ok (.iconst 1, 1) := by decide +kernel
theorem dX7_change_3 : decode cX7_change 3 = .ok (.iadd, 1) := by decide +kernel
theorem dX7_change_4 : decode cX7_change 4 = .ok (.invokevirtual 64, 3) := by decide +kernel
theorem dX7_change_7 : decode cX7_change 7 = .ok (.istore 4, 2) := by decide +kernel
theorem dX7_change_9 : decode cX7_change 9 = .ok (.aload_n 0, 1) := by decide +kernel
theorem dX7_change_10 : decode cX7_change 10 = .ok (.iload_n 3, 1) := by decide +kernel
theorem dX7_change_11 : decode cX7_change 11 = .ok (.iconst 3, 1) := by decide +kernel
theorem dX7_change_12 : decode cX7_change 12 = .ok (.iadd, 1) := by decide +kernel
theorem dX7_change_13 : decode cX7_change 13 = .ok (.invokevirtual 64, 3) := by decide +kernel
theorem dX7_change_16 : decode cX7_change 16 = .ok (.istore 5, 2) := by decide +kernel
theorem dX7_change_18 : decode cX7_change 18 = .ok (.aload_n 0, 1) := by decide +kernel
theorem dX7_change_19 : decode cX7_change 19 = .ok (.iload_n 3, 1) := by decide +kernel
theorem dX7_change_20 : decode cX7_change 20 = .ok (.iconst 5, 1) := by decide +kernel
theorem dX7_change_21 : decode cX7_change 21 = .ok (.iadd, 1) := by decide +kernel
theorem dX7_change_22 : decode cX7_change 22 = .ok (.invokevirtual 64, 3) := by decide +kernel
theorem dX7_change_25 : decode cX7_change 25 = .ok (.istore 6, 2) := by decide +kernel
theorem dX7_change_27 : decode cX7_change 27 = .ok (.aload_n 0, 1) := by decide +kernel
theorem dX7_change_28 : decode cX7_change 28 = .ok (.iload_n 3, 1) := by decide +kernel
theorem dX7_change_29 : decode cX7_change 29 = .ok (.bipush 7, 2) := by decide +kernel
theorem dX7_change_31 : decode cX7_change 31 = .ok (.iadd, 1) := by decide +kernel
theorem dX7_change_32 : decode cX7_change 32 = .ok (.invokevirtual 64, 3) := by decide +kernel
theorem dX7_change_35 : decode cX7_change 35 = .ok (.istore 7, 2) := by decide +kernel
theorem dX7_change_37 : decode cX7_change 37 = .ok (.iload_n 2, 1) := by decide +kernel
theorem dX7_change_38 : decode cX7_change 38 = .ok (.tableswitch 83 0 4 #[34, 47, 58, 67, 76], 34) := by decide +kernel
theorem dX7_change_72 : decode cX7_change 72 = .ok (.aload_n 1, 1) := by decide +kernel
theorem dX7_change_73 : decode cX7_change 73 = .ok (.iload 4, 2) := by decide +kernel
theorem dX7_change_75 : decode cX7_change 75 = .ok (.iload 5, 2) := by decide +kernel
theorem dX7_change_77 : decode cX7_change 77 = .ok (.iload 6, 2) := by decide +kernel
theorem dX7_change_79 : decode cX7_change 79 = .ok (.iload 7, 2) := by decide +kernel
theorem dX7_change_81 : decode cX7_change 81 = .ok (.invokevirtual 67, 3) := by decide +kernel
theorem dX7_change_84 : decode cX7_change 84 = .ok (.ireturn, 1) := by decide +kernel
theorem dX7_change_85 : decode cX7_change 85 = .ok (.aload_n 1, 1) := by decide +kernel
theorem dX7_change_86 : decode cX7_change 86 = .ok (.iload 4, 2) := by decide +kernel
theorem dX7_change_88 : decode cX7_change 88 = .ok (.iload 5, 2) := by decide +kernel
theorem dX7_change_90 : decode cX7_change 90 = .ok (.iload 6, 2) := by decide +kernel
theorem dX7_change_92 : decode cX7_change 92 = .ok (.invokevirtual 73, 3) := by decide +kernel
theorem dX7_change_95 : decode cX7_change 95 = .ok (.ireturn, 1) := by decide +kernel
theorem dX7_change_96 : decode cX7_change 96 = .ok (.aload_n 1, 1) := by decide +kernel
theorem dX7_change_97 : decode cX7_change 97 = .ok (.iload 4, 2) := by decide +kernel
theorem dX7_change_99 : decode cX7_change 99 = .ok (.iload 5, 2) := by decide +kernel
theorem dX7_change_101 : decode cX7_change 101 = .ok (.invokevirtual 76, 3) := by decide +kernel
theorem dX7_change_104 : decode cX7_change 104 = .ok (.ireturn, 1) := by decide +kernel
theorem dX7_change_105 : decode cX7_change 105 = .ok (.aload_n 1, 1) := by decide +kernel
theorem dX7_change_106 : decode cX7_change 106 = .ok (.iload 4, 2) := by decide +kernel
theorem dX7_change_108 : decode cX7_change 108 = .ok (.iload 5, 2) := by decide +kernel
theorem dX7_change_110 : decode cX7_change 110 = .ok (.invokevirtual 79, 3) := by decide +kernel
theorem dX7_change_113 : decode cX7_change 113 = .ok (.ireturn, 1) := by decide +kernel
theorem dX7_change_114 : decode cX7_change 114 = .ok (.aload_n 1, 1) := by decide +kernel
theorem dX7_change_115 : decode cX7_change 115 = .ok (.iload 4, 2) := by decide +kernel
theorem dX7_change_117 : decode cX7_change 117 = .ok (.invokevirtual 82, 3) := by decide +kernel
theorem dX7_change_120 : decode cX7_change 120 = .ok (.ireturn, 1) := by decide +kernel
theorem dX7_change_121 : decode cX7_change 121 = .ok (.aload_n 1, 1) := by decide +kernel
theorem dX7_change_122 : decode cX7_change 122 = .ok (.iload 4, 2) := by decide +kernel
theorem dX7_change_124 : decode cX7_change 124 = .ok (.invokevirtual 85, 3) := by decide +kernel
theorem dX7_change_127 : decode cX7_change 127 = .ok (.ireturn, 1) := by decide +kernel
theorem dX7_wordAt_0 : decode cX7_wordAt 0 = .ok (.iconst 0, 1) := by decide +kernel
theorem dX7_wordAt_1 : decode cX7_wordAt 1 = .ok (.istore_n 2, 1) := by decide +kernel
theorem dX7_wordAt_2 : decode cX7_wordAt 2 = .ok (.iload_n 2, 1) := by decide +kernel
theorem dX7_wordAt_3 : decode cX7_wordAt 3 = .ok (.bipush 6, 2) := by decide +kernel
theorem dX7_wordAt_5 : decode cX7_wordAt 5 = .ok (.if_icmp .ge 29, 3) := by decide +kernel
theorem dX7_wordAt_8 : decode cX7_wordAt 8 = .ok (.iload_n 2, 1) := by decide +kernel
theorem dX7_wordAt_9 : decode cX7_wordAt 9 = .ok (.invokestatic 38, 3) := by decide +kernel
theorem dX7_wordAt_12 : decode cX7_wordAt 12 = .ok (.astore_n 3, 1) := by decide +kernel
theorem dX7_wordAt_13 : decode cX7_wordAt 13 = .ok (.aload_n 0, 1) := by decide +kernel
theorem dX7_wordAt_14 : decode cX7_wordAt 14 = .ok (.aload_n 3, 1) := by decide +kernel
theorem dX7_wordAt_15 : decode cX7_wordAt 15 = .ok (.iload_n 1, 1) := by decide +kernel
theorem dX7_wordAt_16 : decode cX7_wordAt 16 = .ok (.invokevirtual 88, 3) := by decide +kernel
theorem dX7_wordAt_19 : decode cX7_wordAt 19 = .ok (.aload_n 3, 1) := by decide +kernel
theorem dX7_wordAt_20 : decode cX7_wordAt 20 = .ok (.invokevirtual 42, 3) := by decide +kernel
theorem dX7_wordAt_23 : decode cX7_wordAt 23 = .ok (.if_icmp .ne 5, 3) := by decide +kernel
theorem dX7_wordAt_26 : decode cX7_wordAt 26 = .ok (.iload_n 2, 1) := by decide +kernel
theorem dX7_wordAt_27 : decode cX7_wordAt 27 = .ok (.ireturn, 1) := by decide +kernel
theorem dX7_wordAt_28 : decode cX7_wordAt 28 = .ok (.iinc 2 1, 3) := by decide +kernel
theorem dX7_wordAt_31 : decode cX7_wordAt 31 = .ok (.goto (-29), 3) := by decide +kernel
theorem dX7_wordAt_34 : decode cX7_wordAt 34 = .ok (.iconst (-1), 1) := by decide +kernel
theorem dX7_wordAt_35 : decode cX7_wordAt 35 = .ok (.ireturn, 1) := by decide +kernel
theorem dX7_longestBeginning_0 : decode cX7_longestBeginning 0 = .ok (.iconst 0, 1) := by decide +kernel
theorem dX7_longestBeginning_1 : decode cX7_longestBeginning 1 = .ok (.istore_n 2, 1) := by decide +kernel
theorem dX7_longestBeginning_2 : decode cX7_longestBeginning 2 = .ok (.iconst 0, 1) := by decide +kernel
theorem dX7_longestBeginning_3 : decode cX7_longestBeginning 3 = .ok (.istore_n 3, 1) := by decide +kernel
theorem dX7_longestBeginning_4 : decode cX7_longestBeginning 4 = .ok (.iload_n 3, 1) := by decide +kernel
theorem dX7_longestBeginning_5 : decode cX7_longestBeginning 5 = .ok (.bipush 6, 2) := by decide +kernel
theorem dX7_longestBeginning_7 : decode cX7_longestBeginning 7 = .ok (.if_icmp .ge 23, 3) := by decide +kernel
theorem dX7_longestBeginning_10 : decode cX7_longestBeginning 10 = .ok (.iload_n 2, 1) := by decide +kernel
theorem dX7_longestBeginning_11 : decode cX7_longestBeginning 11 = .ok (.aload_n 0, 1) := by decide +kernel
theorem dX7_longestBeginning_12 : decode cX7_longestBeginning 12 = .ok (.iload_n 3, 1) := by decide +kernel
theorem dX7_longestBeginning_13 : decode cX7_longestBeginning 13 = .ok (.invokestatic 38, 3) := by decide +kernel
theorem dX7_longestBeginning_16 : decode cX7_longestBeginning 16 = .ok (.iload_n 1, 1) := by decide +kernel
theorem dX7_longestBeginning_17 : decode cX7_longestBeginning 17 = .ok (.invokevirtual 88, 3) := by decide +kernel
theorem dX7_longestBeginning_20 : decode cX7_longestBeginning 20 = .ok (.invokestatic 92, 3) := by decide +kernel
theorem dX7_longestBeginning_23 : decode cX7_longestBeginning 23 = .ok (.istore_n 2, 1) := by decide +kernel
theorem dX7_longestBeginning_24 : decode cX7_longestBeginning 24 = .ok (.iinc 3 1, 3) := by decide +kernel
theorem dX7_longestBeginning_27 : decode cX7_longestBeginning 27 = .ok (.goto (-23), 3) := by decide +kernel
theorem dX7_longestBeginning_30 : decode cX7_longestBeginning 30 = .ok (.iload_n 2, 1) := by decide +kernel
theorem dX7_longestBeginning_31 : decode cX7_longestBeginning 31 = .ok (.ireturn, 1) := by decide +kernel
theorem dX7_beginning_0 : decode cX7_beginning 0 = .ok (.iconst 0, 1) := by decide +kernel
theorem dX7_beginning_1 : decode cX7_beginning 1 = .ok (.istore_n 3, 1) := by decide +kernel
theorem dX7_beginning_2 : decode cX7_beginning 2 = .ok (.iload_n 3, 1) := by decide +kernel
theorem dX7_beginning_3 : decode cX7_beginning 3 = .ok (.aload_n 1, 1) := by decide +kernel
theorem dX7_beginning_4 : decode cX7_beginning 4 = .ok (.invokevirtual 42, 3) := by decide +kernel
theorem dX7_beginning_7 : decode cX7_beginning 7 = .ok (.if_icmp .ge 24, 3) := by decide +kernel
theorem dX7_beginning_10 : decode cX7_beginning 10 = .ok (.aload_n 0, 1) := by decide +kernel
theorem dX7_beginning_11 : decode cX7_beginning 11 = .ok (.iload_n 2, 1) := by decide +kernel
theorem dX7_beginning_12 : decode cX7_beginning 12 = .ok (.iload_n 3, 1) := by decide +kernel
theorem dX7_beginning_13 : decode cX7_beginning 13 = .ok (.iadd, 1) := by decide +kernel
theorem dX7_beginning_14 : decode cX7_beginning 14 = .ok (.invokevirtual 57, 3) := by decide +kernel
theorem dX7_beginning_17 : decode cX7_beginning 17 = .ok (.aload_n 1, 1) := by decide +kernel
theorem dX7_beginning_18 : decode cX7_beginning 18 = .ok (.iload_n 3, 1) := by decide +kernel
theorem dX7_beginning_19 : decode cX7_beginning 19 = .ok (.invokevirtual 97, 3) := by decide +kernel
theorem dX7_beginning_22 : decode cX7_beginning 22 = .ok (.if_icmp .ne 9, 3) := by decide +kernel
theorem dX7_beginning_25 : decode cX7_beginning 25 = .ok (.iinc 3 1, 3) := by decide +kernel
theorem dX7_beginning_28 : decode cX7_beginning 28 = .ok (.goto (-26), 3) := by decide +kernel
theorem dX7_beginning_31 : decode cX7_beginning 31 = .ok (.iload_n 3, 1) := by decide +kernel
theorem dX7_beginning_32 : decode cX7_beginning 32 = .ok (.ireturn, 1) := by decide +kernel
theorem dX7_endOf_0 : decode cX7_endOf 0 = .ok (.iload_n 1, 1) := by decide +kernel
theorem dX7_endOf_1 : decode cX7_endOf 1 = .ok (.iload_n 2, 1) := by decide +kernel
theorem dX7_endOf_2 : decode cX7_endOf 2 = .ok (.invokestatic 38, 3) := by decide +kernel
theorem dX7_endOf_5 : decode cX7_endOf 5 = .ok (.invokevirtual 42, 3) := by decide +kernel
theorem dX7_endOf_8 : decode cX7_endOf 8 = .ok (.iadd, 1) := by decide +kernel
theorem dX7_endOf_9 : decode cX7_endOf 9 = .ok (.iconst 2, 1) := by decide +kernel
theorem dX7_endOf_10 : decode cX7_endOf 10 = .ok (.iload_n 2, 1) := by decide +kernel
theorem dX7_endOf_11 : decode cX7_endOf 11 = .ok (.invokestatic 47, 3) := by decide +kernel
theorem dX7_endOf_14 : decode cX7_endOf 14 = .ok (.imul, 1) := by decide +kernel
theorem dX7_endOf_15 : decode cX7_endOf 15 = .ok (.iadd, 1) := by decide +kernel
theorem dX7_endOf_16 : decode cX7_endOf 16 = .ok (.iconst 1, 1) := by decide +kernel
theorem dX7_endOf_17 : decode cX7_endOf 17 = .ok (.iadd, 1) := by decide +kernel
theorem dX7_endOf_18 : decode cX7_endOf 18 = .ok (.ireturn, 1) := by decide +kernel
theorem dX7_letterAt_0 : decode cX7_letterAt 0 = .ok (.iload_n 1, 1) := by decide +kernel
theorem dX7_letterAt_1 : decode cX7_letterAt 1 = .ok (.ifCond .lt 20, 3) := by decide +kernel
theorem dX7_letterAt_4 : decode cX7_letterAt 4 = .ok (.iload_n 1, 1) := by decide +kernel
theorem dX7_letterAt_5 : decode cX7_letterAt 5 = .ok (.aload_n 0, 1) := by decide +kernel
theorem dX7_letterAt_6 : decode cX7_letterAt 6 = .ok (.getfield 9, 3) := by decide +kernel
theorem dX7_letterAt_9 : decode cX7_letterAt 9 = .ok (.if_icmp .ge 12, 3) := by decide +kernel
theorem dX7_letterAt_12 : decode cX7_letterAt 12 = .ok (.aload_n 0, 1) := by decide +kernel
theorem dX7_letterAt_13 : decode cX7_letterAt 13 = .ok (.getfield 15, 3) := by decide +kernel
theorem dX7_letterAt_16 : decode cX7_letterAt 16 = .ok (.iload_n 1, 1) := by decide +kernel
theorem dX7_letterAt_17 : decode cX7_letterAt 17 = .ok (.iaload, 1) := by decide +kernel
theorem dX7_letterAt_18 : decode cX7_letterAt 18 = .ok (.goto 4, 3) := by decide +kernel
theorem dX7_letterAt_21 : decode cX7_letterAt 21 = .ok (.iconst (-1), 1) := by decide +kernel
theorem dX7_letterAt_22 : decode cX7_letterAt 22 = .ok (.ireturn, 1) := by decide +kernel
theorem dX7_digitAt_0 : decode cX7_digitAt 0 = .ok (.aload_n 0, 1) := by decide +kernel
theorem dX7_digitAt_1 : decode cX7_digitAt 1 = .ok (.iload_n 1, 1) := by decide +kernel
theorem dX7_digitAt_2 : decode cX7_digitAt 2 = .ok (.invokevirtual 57, 3) := by decide +kernel
theorem dX7_digitAt_5 : decode cX7_digitAt 5 = .ok (.bipush 48, 2) := by decide +kernel
theorem dX7_digitAt_7 : decode cX7_digitAt 7 = .ok (.isub, 1) := by decide +kernel
theorem dX7_digitAt_8 : decode cX7_digitAt 8 = .ok (.ireturn, 1) := by decide +kernel
theorem dX7_textOf_0 : decode cX7_textOf 0 = .ok (.iload_n 0, 1) := by decide +kernel
theorem dX7_textOf_1 : decode cX7_textOf 1 = .ok (.tableswitch 50 0 4 #[35, 38, 41, 44, 47], 35) := by decide +kernel
theorem dX7_textOf_36 : decode cX7_textOf 36 = .ok (.ldc 101, 2) := by decide +kernel
theorem dX7_textOf_38 : decode cX7_textOf 38 = .ok (.areturn, 1) := by decide +kernel
theorem dX7_textOf_39 : decode cX7_textOf 39 = .ok (.ldc 103, 2) := by decide +kernel
theorem dX7_textOf_41 : decode cX7_textOf 41 = .ok (.areturn, 1) := by decide +kernel
theorem dX7_textOf_42 : decode cX7_textOf 42 = .ok (.ldc 105, 2) := by decide +kernel
theorem dX7_textOf_44 : decode cX7_textOf 44 = .ok (.areturn, 1) := by decide +kernel
theorem dX7_textOf_45 : decode cX7_textOf 45 = .ok (.ldc 107, 2) := by decide +kernel
theorem dX7_textOf_47 : decode cX7_textOf 47 = .ok (.areturn, 1) := by decide +kernel
theorem dX7_textOf_48 : decode cX7_textOf 48 = .ok (.ldc 109, 2) := by decide +kernel
theorem dX7_textOf_50 : decode cX7_textOf 50 = .ok (.areturn, 1) := by decide +kernel
theorem dX7_textOf_51 : decode cX7_textOf 51 = .ok (.ldc 111, 2) := by decide +kernel
theorem dX7_textOf_53 : decode cX7_textOf 53 = .ok (.areturn, 1) := by decide +kernel
theorem dX7_numbersOf_0 : decode cX7_numbersOf 0 = .ok (.iload_n 0, 1) := by decide +kernel
theorem dX7_numbersOf_1 : decode cX7_numbersOf 1 = .ok (.tableswitch 37 0 3 #[31, 33, 35, 35], 31) := by decide +kernel
theorem dX7_numbersOf_32 : decode cX7_numbersOf 32 = .ok (.iconst 4, 1) := by decide +kernel
theorem dX7_numbersOf_33 : decode cX7_numbersOf 33 = .ok (.ireturn, 1) := by decide +kernel
theorem dX7_numbersOf_34 : decode cX7_numbersOf 34 = .ok (.iconst 3, 1) := by decide +kernel
theorem dX7_numbersOf_35 : decode cX7_numbersOf 35 = .ok (.ireturn, 1) := by decide +kernel
theorem dX7_numbersOf_36 : decode cX7_numbersOf 36 = .ok (.iconst 2, 1) := by decide +kernel
theorem dX7_numbersOf_37 : decode cX7_numbersOf 37 = .ok (.ireturn, 1) := by decide +kernel
theorem dX7_numbersOf_38 : decode cX7_numbersOf 38 = .ok (.iconst 1, 1) := by decide +kernel
theorem dX7_numbersOf_39 : decode cX7_numbersOf 39 = .ok (.ireturn, 1) := by decide +kernel
theorem dX8_init_0 : decode cX8_init 0 = .ok (.aload_n 0, 1) := by decide +kernel
theorem dX8_init_1 : decode cX8_init 1 = .ok (.invokespecial 1, 3) := by decide +kernel
theorem dX8_init_4 : decode cX8_init 4 = .ok (.aload_n 0, 1) := by decide +kernel
theorem dX8_init_5 : decode cX8_init 5 = .ok (.new 7, 3) := by decide +kernel
theorem dX8_init_8 : decode cX8_init 8 = .ok (.dup, 1) := by decide +kernel
theorem dX8_init_9 : decode cX8_init 9 = .ok (.invokespecial 9, 3) := by decide +kernel
theorem dX8_init_12 : decode cX8_init 12 = .ok (.putfield 10, 3) := by decide +kernel
theorem dX8_init_15 : decode cX8_init 15 = .ok (.aload_n 0, 1) := by decide +kernel
theorem dX8_init_16 : decode cX8_init 16 = .ok (.new 7, 3) := by decide +kernel
theorem dX8_init_19 : decode cX8_init 19 = .ok (.dup, 1) := by decide +kernel
theorem dX8_init_20 : decode cX8_init 20 = .ok (.invokespecial 9, 3) := by decide +kernel
theorem dX8_init_23 : decode cX8_init 23 = .ok (.putfield 16, 3) := by decide +kernel
theorem dX8_init_26 : decode cX8_init 26 = .ok (.aload_n 0, 1) := by decide +kernel
theorem dX8_init_27 : decode cX8_init 27 = .ok (.new 7, 3) := by decide +kernel
theorem dX8_init_30 : decode cX8_init 30 = .ok (.dup, 1) := by decide +kernel
theorem dX8_init_31 : decode cX8_init 31 = .ok (.invokespecial 9, 3) := by decide +kernel
theorem dX8_init_34 : decode cX8_init 34 = .ok (.putfield 19, 3) := by decide +kernel
theorem dX8_init_37 : decode cX8_init 37 = .ok (.aload_n 0, 1) := by decide +kernel
theorem dX8_init_38 : decode cX8_init 38 = .ok (.iconst 0, 1) := by decide +kernel
theorem dX8_init_39 : decode cX8_init 39 = .ok (.putfield 22, 3) := by decide +kernel
theorem dX8_init_42 : decode cX8_init 42 = .ok (.aload_n 0, 1) := by decide +kernel
theorem dX8_init_43 : decode cX8_init 43 = .ok (.new 26, 3) := by decide +kernel
theorem dX8_init_46 : decode cX8_init 46 = .ok (.dup, 1) := by decide +kernel
theorem dX8_init_47 : decode cX8_init 47 = .ok (.invokespecial 28, 3) := by decide +kernel
theorem dX8_init_50 : decode cX8_init 50 = .ok (.putfield 29, 3) := by decide +kernel
theorem dX8_init_53 : decode cX8_init 53 = .ok (.aload_n 0, 1) := by decide +kernel
theorem dX8_init_54 : decode cX8_init 54 = .ok (.bipush 6, 2) := by decide +kernel
theorem dX8_init_56 : decode cX8_init 56 = .ok (.newarray .long, 2) := by decide +kernel
theorem dX8_init_58 : decode cX8_init 58 = .ok (.putfield 33, 3) := by decide +kernel
theorem dX8_init_61 : decode cX8_init 61 = .ok (.aload_n 0, 1) := by decide +kernel
theorem dX8_init_62 : decode cX8_init 62 = .ok (.new 37, 3) := by decide +kernel
theorem dX8_init_65 : decode cX8_init 65 = .ok (.dup, 1) := by decide +kernel
theorem dX8_init_66 : decode cX8_init 66 = .ok (.invokespecial 39, 3) := by decide +kernel
theorem dX8_init_69 : decode cX8_init 69 = .ok (.putfield 40, 3) := by decide +kernel
theorem dX8_init_72 : decode cX8_init 72 = .ok (.aload_n 0, 1) := by decide +kernel
theorem dX8_init_73 : decode cX8_init 73 = .ok (.new 44, 3) := by decide +kernel
theorem dX8_init_76 : decode cX8_init 76 = .ok (.dup, 1) := by decide +kernel
theorem dX8_init_77 : decode cX8_init 77 = .ok (.invokespecial 46, 3) := by decide +kernel
theorem dX8_init_80 : decode cX8_init 80 = .ok (.putfield 47, 3) := by decide +kernel
theorem dX8_init_83 : decode cX8_init 83 = .ok (.aload_n 0, 1) := by decide +kernel
theorem dX8_init_84 : decode cX8_init 84 = .ok (.new 51, 3) := by decide +kernel
theorem dX8_init_87 : decode cX8_init 87 = .ok (.dup, 1) := by decide +kernel
theorem dX8_init_88 : decode cX8_init 88 = .ok (.invokespecial 53, 3) := by decide +kernel
theorem dX8_init_91 : decode cX8_init 91 = .ok (.putfield 54, 3) := by decide +kernel
theorem dX8_init_94 : decode cX8_init 94 = .ok (.aload_n 0, 1) := by decide +kernel
theorem dX8_init_95 : decode cX8_init 95 = .ok (.new 58, 3) := by decide +kernel
theorem dX8_init_98 : decode cX8_init 98 = .ok (.dup, 1) := by decide +kernel
theorem dX8_init_99 : decode cX8_init 99 = .ok (.invokespecial 60, 3) := by decide +kernel
theorem dX8_init_102 : decode cX8_init 102 = .ok (.putfield 61, 3) := by decide +kernel
theorem dX8_init_105 : decode cX8_init 105 = .ok (.aload_n 0, 1) := by decide +kernel
theorem dX8_init_106 : decode cX8_init 106 = .ok (.bipush 10, 2) := by decide +kernel
theorem dX8_init_108 : decode cX8_init 108 = .ok (.newarray .int, 2) := by decide +kernel
theorem dX8_init_110 : decode cX8_init 110 = .ok (.putfield 65, 3) := by decide +kernel
theorem dX8_init_113 : decode cX8_init 113 = .ok (.aload_n 0, 1) := by decide +kernel
theorem dX8_init_114 : decode cX8_init 114 = .ok (.iconst 0, 1) := by decide +kernel
theorem dX8_init_115 : decode cX8_init 115 = .ok (.putfield 69, 3) := by decide +kernel
theorem dX8_init_118 : decode cX8_init 118 = .ok (.aload_n 0, 1) := by decide +kernel
theorem dX8_init_119 : decode cX8_init 119 = .ok (.new 73, 3) := by decide +kernel
theorem dX8_init_122 : decode cX8_init 122 = .ok (.dup, 1) := by decide +kernel
theorem dX8_init_123 : decode cX8_init 123 = .ok (.invokespecial 75, 3) := by decide +kernel
theorem dX8_init_126 : decode cX8_init 126 = .ok (.putfield 76, 3) := by decide +kernel
theorem dX8_init_129 : decode cX8_init 129 = .ok (.aload_n 0, 1) := by decide +kernel
theorem dX8_init_130 : decode cX8_init 130 = .ok (.new 80, 3) := by decide +kernel
theorem dX8_init_133 : decode cX8_init 133 = .ok (.dup, 1) := by decide +kernel
theorem dX8_init_134 : decode cX8_init 134 = .ok (.invokespecial 82, 3) := by decide +kernel
theorem dX8_init_137 : decode cX8_init 137 = .ok (.putfield 83, 3) := by decide +kernel
theorem dX8_init_140 : decode cX8_init 140 = .ok (.aload_n 0, 1) := by decide +kernel
theorem dX8_init_141 : decode cX8_init 141 = .ok (.bipush 7, 2) := by decide +kernel
theorem dX8_init_143 : decode cX8_init 143 = .ok (.newarray .int, 2) := by decide +kernel
theorem dX8_init_145 : decode cX8_init 145 = .ok (.putfield 87, 3) := by decide +kernel
theorem dX8_init_148 : decode cX8_init 148 = .ok (.return_, 1) := by decide +kernel
theorem dX8_letter_0 : decode cX8_letter 0 = .ok (.aload_n 0, 1) := by decide +kernel
theorem dX8_letter_1 : decode cX8_letter 1 = .ok (.aload_n 0, 1) := by decide +kernel
theorem dX8_letter_2 : decode cX8_letter 2 = .ok (.getfield 40, 3) := by decide +kernel
theorem dX8_letter_5 : decode cX8_letter 5 = .ok (.iload_n 1, 1) := by decide +kernel
theorem dX8_letter_6 : decode cX8_letter 6 = .ok (.invokevirtual 90, 3) := by decide +kernel
theorem dX8_letter_9 : decode cX8_letter 9 = .ok (.invokevirtual 94, 3) := by decide +kernel
theorem dX8_letter_12 : decode cX8_letter 12 = .ok (.ireturn, 1) := by decide +kernel
theorem dX8_tells_0 : decode cX8_tells 0 = .ok (.aload_n 0, 1) := by decide +kernel
theorem dX8_tells_1 : decode cX8_tells 1 = .ok (.getfield 16, 3) := by decide +kernel
theorem dX8_tells_4 : decode cX8_tells 4 = .ok (.aload_n 0, 1) := by decide +kernel
theorem dX8_tells_5 : decode cX8_tells 5 = .ok (.getfield 10, 3) := by decide +kernel
theorem dX8_tells_8 : decode cX8_tells 8 = .ok (.invokevirtual 97, 3) := by decide +kernel
theorem dX8_tells_11 : decode cX8_tells 11 = .ok (.aload_n 0, 1) := by decide +kernel
theorem dX8_tells_12 : decode cX8_tells 12 = .ok (.getfield 40, 3) := by decide +kernel
theorem dX8_tells_15 : decode cX8_tells 15 = .ok (.aload_n 0, 1) := by decide +kernel
theorem dX8_tells_16 : decode cX8_tells 16 = .ok (.getfield 16, 3) := by decide +kernel
theorem dX8_tells_19 : decode cX8_tells 19 = .ok (.invokevirtual 101, 3) := by decide +kernel
theorem dX8_tells_22 : decode cX8_tells 22 = .ok (.istore_n 1, 1) := by decide +kernel
theorem dX8_tells_23 : decode cX8_tells 23 = .ok (.iload_n 1, 1) := by decide +kernel
theorem dX8_tells_24 : decode cX8_tells 24 = .ok (.ifCond .le 14, 3) := by decide +kernel
theorem dX8_tells_27 : decode cX8_tells 27 = .ok (.aload_n 0, 1) := by decide +kernel
theorem dX8_tells_28 : decode cX8_tells 28 = .ok (.getfield 10, 3) := by decide +kernel
theorem dX8_tells_31 : decode cX8_tells 31 = .ok (.aload_n 0, 1) := by decide +kernel
theorem dX8_tells_32 : decode cX8_tells 32 = .ok (.getfield 16, 3) := by decide +kernel
theorem dX8_tells_35 : decode cX8_tells 35 = .ok (.invokevirtual 97, 3) := by decide +kernel
theorem dX8_tells_38 : decode cX8_tells 38 = .ok (.iload_n 1, 1) := by decide +kernel
theorem dX8_tells_39 : decode cX8_tells 39 = .ok (.ireturn, 1) := by decide +kernel
theorem dX8_points_0 : decode cX8_points 0 = .ok (.aload_n 0, 1) := by decide +kernel
theorem dX8_points_1 : decode cX8_points 1 = .ok (.aload_n 0, 1) := by decide +kernel
theorem dX8_points_2 : decode cX8_points 2 = .ok (.getfield 10, 3) := by decide +kernel
theorem dX8_points_5 : decode cX8_points 5 = .ok (.iload_n 1, 1) := by decide +kernel
theorem dX8_points_6 : decode cX8_points 6 = .ok (.invokevirtual 105, 3) := by decide +kernel
theorem dX8_points_9 : decode cX8_points 9 = .ok (.invokevirtual 94, 3) := by decide +kernel
theorem dX8_points_12 : decode cX8_points 12 = .ok (.ireturn, 1) := by decide +kernel
theorem dX8_way_0 : decode cX8_way 0 = .ok (.aload_n 0, 1) := by decide +kernel
theorem dX8_way_1 : decode cX8_way 1 = .ok (.aload_n 0, 1) := by decide +kernel
theorem dX8_way_2 : decode cX8_way 2 = .ok (.getfield 10, 3) := by decide +kernel
theorem dX8_way_5 : decode cX8_way 5 = .ok (.iload_n 1, 1) := by decide +kernel
theorem dX8_way_6 : decode cX8_way 6 = .ok (.iload_n 2, 1) := by decide +kernel
theorem dX8_way_7 : decode cX8_way 7 = .ok (.iload_n 3, 1) := by decide +kernel
theorem dX8_way_8 : decode cX8_way 8 = .ok (.iload 4, 2) := by decide +kernel
theorem dX8_way_10 : decode cX8_way 10 = .ok (.invokevirtual 108, 3) := by decide +kernel
theorem dX8_way_13 : decode cX8_way 13 = .ok (.invokevirtual 94, 3) := by decide +kernel
theorem dX8_way_16 : decode cX8_way 16 = .ok (.ireturn, 1) := by decide +kernel
theorem dX8_kind_0 : decode cX8_kind 0 = .ok (.aload_n 0, 1) := by decide +kernel
theorem dX8_kind_1 : decode cX8_kind 1 = .ok (.aload_n 0, 1) := by decide +kernel
theorem dX8_kind_2 : decode cX8_kind 2 = .ok (.getfield 10, 3) := by decide +kernel
theorem dX8_kind_5 : decode cX8_kind 5 = .ok (.iload_n 1, 1) := by decide +kernel
theorem dX8_kind_6 : decode cX8_kind 6 = .ok (.iload_n 2, 1) := by decide +kernel
theorem dX8_kind_7 : decode cX8_kind 7 = .ok (.iload_n 3, 1) := by decide +kernel
theorem dX8_kind_8 : decode cX8_kind 8 = .ok (.invokevirtual 112, 3) := by decide +kernel
theorem dX8_kind_11 : decode cX8_kind 11 = .ok (.invokevirtual 94, 3) := by decide +kernel
theorem dX8_kind_14 : decode cX8_kind 14 = .ok (.ireturn, 1) := by decide +kernel
theorem dX8_load_0 : decode cX8_load 0 = .ok (.aload_n 0, 1) := by decide +kernel
theorem dX8_load_1 : decode cX8_load 1 = .ok (.aload_n 0, 1) := by decide +kernel
theorem dX8_load_2 : decode cX8_load 2 = .ok (.getfield 10, 3) := by decide +kernel
theorem dX8_load_5 : decode cX8_load 5 = .ok (.iload_n 1, 1) := by decide +kernel
theorem dX8_load_6 : decode cX8_load 6 = .ok (.iload_n 2, 1) := by decide +kernel
theorem dX8_load_7 : decode cX8_load 7 = .ok (.invokevirtual 116, 3) := by decide +kernel
theorem dX8_load_10 : decode cX8_load 10 = .ok (.invokevirtual 94, 3) := by decide +kernel
theorem dX8_load_13 : decode cX8_load 13 = .ok (.ireturn, 1) := by decide +kernel
theorem dX8_length_0 : decode cX8_length 0 = .ok (.aload_n 0, 1) := by decide +kernel
theorem dX8_length_1 : decode cX8_length 1 = .ok (.aload_n 0, 1) := by decide +kernel
theorem dX8_length_2 : decode cX8_length 2 = .ok (.getfield 10, 3) := by decide +kernel
theorem dX8_length_5 : decode cX8_length 5 = .ok (.iload_n 1, 1) := by decide +kernel
theorem dX8_length_6 : decode cX8_length 6 = .ok (.iload_n 2, 1) := by decide +kernel
theorem dX8_length_7 : decode cX8_length 7 = .ok (.invokevirtual 120, 3) := by decide +kernel
theorem dX8_length_10 : decode cX8_length 10 = .ok (.invokevirtual 94, 3) := by decide +kernel
theorem dX8_length_13 : decode cX8_length 13 = .ok (.ireturn, 1) := by decide +kernel
theorem dX8_lose_0 : decode cX8_lose 0 = .ok (.aload_n 0, 1) := by decide +kernel
theorem dX8_lose_1 : decode cX8_lose 1 = .ok (.aload_n 0, 1) := by decide +kernel
theorem dX8_lose_2 : decode cX8_lose 2 = .ok (.getfield 10, 3) := by decide +kernel
theorem dX8_lose_5 : decode cX8_lose 5 = .ok (.iload_n 1, 1) := by decide +kernel
theorem dX8_lose_6 : decode cX8_lose 6 = .ok (.invokevirtual 123, 3) := by decide +kernel
theorem dX8_lose_9 : decode cX8_lose 9 = .ok (.invokevirtual 94, 3) := by decide +kernel
theorem dX8_lose_12 : decode cX8_lose 12 = .ok (.ireturn, 1) := by decide +kernel
theorem dX8_of_0 : decode cX8_of 0 = .ok (.aload_n 0, 1) := by decide +kernel
theorem dX8_of_1 : decode cX8_of 1 = .ok (.getfield 10, 3) := by decide +kernel
theorem dX8_of_4 : decode cX8_of 4 = .ok (.iload_n 1, 1) := by decide +kernel
theorem dX8_of_5 : decode cX8_of 5 = .ok (.invokevirtual 126, 3) := by decide +kernel
theorem dX8_of_8 : decode cX8_of 8 = .ok (.ifCond .ne 9, 3) := by decide +kernel
theorem dX8_of_11 : decode cX8_of 11 = .ok (.aload_n 0, 1) := by decide +kernel
theorem dX8_of_12 : decode cX8_of 12 = .ok (.iconst (-1), 1) := by decide +kernel
theorem dX8_of_13 : decode cX8_of 13 = .ok (.invokevirtual 94, 3) := by decide +kernel
theorem dX8_of_16 : decode cX8_of 16 = .ok (.ireturn, 1) := by decide +kernel
theorem dX8_of_17 : decode cX8_of 17 = .ok (.iload_n 2, 1) := by decide +kernel
theorem dX8_of_18 : decode cX8_of 18 = .ok (.tableswitch 124 0 7 #[46, 56, 66, 76, 86, 96, 106, 115], 46) := by decide +kernel
theorem dX8_of_64 : decode cX8_of 64 = .ok (.aload_n 0, 1) := by decide +kernel
theorem dX8_of_65 : decode cX8_of 65 = .ok (.getfield 10, 3) := by decide +kernel
theorem dX8_of_68 : decode cX8_of 68 = .ok (.getfield 130, 3) := by decide +kernel
theorem dX8_of_71 : decode cX8_of 71 = .ok (.iload_n 1, 1) := by decide +kernel
theorem dX8_of_72 : decode cX8_of 72 = .ok (.iaload, 1) := by decide +kernel
theorem dX8_of_73 : decode cX8_of 73 = .ok (.ireturn, 1) := by decide +kernel
theorem dX8_of_74 : decode cX8_of 74 = .ok (.aload_n 0, 1) := by decide +kernel
theorem dX8_of_75 : decode cX8_of 75 = .ok (.getfield 10, 3) := by decide +kernel
theorem dX8_of_78 : decode cX8_of 78 = .ok (.getfield 133, 3) := by decide +kernel
theorem dX8_of_81 : decode cX8_of 81 = .ok (.iload_n 1, 1) := by decide +kernel
theorem dX8_of_82 : decode cX8_of 82 = .ok (.iaload, 1) := by decide +kernel
theorem dX8_of_83 : decode cX8_of 83 = .ok (.ireturn, 1) := by decide +kernel
theorem dX8_of_84 : decode cX8_of 84 = .ok (.aload_n 0, 1) := by decide +kernel
theorem dX8_of_85 : decode cX8_of 85 = .ok (.getfield 10, 3) := by decide +kernel
theorem dX8_of_88 : decode cX8_of 88 = .ok (.getfield 136, 3) := by decide +kernel
theorem dX8_of_91 : decode cX8_of 91 = .ok (.iload_n 1, 1) := by decide +kernel
theorem dX8_of_92 : decode cX8_of 92 = .ok (.iaload, 1) := by decide +kernel
theorem dX8_of_93 : decode cX8_of 93 = .ok (.ireturn, 1) := by decide +kernel
theorem dX8_of_94 : decode cX8_of 94 = .ok (.aload_n 0, 1) := by decide +kernel
theorem dX8_of_95 : decode cX8_of 95 = .ok (.getfield 10, 3) := by decide +kernel
theorem dX8_of_98 : decode cX8_of 98 = .ok (.getfield 139, 3) := by decide +kernel
theorem dX8_of_101 : decode cX8_of 101 = .ok (.iload_n 1, 1) := by decide +kernel
theorem dX8_of_102 : decode cX8_of 102 = .ok (.iaload, 1) := by decide +kernel
theorem dX8_of_103 : decode cX8_of 103 = .ok (.ireturn, 1) := by decide +kernel
theorem dX8_of_104 : decode cX8_of 104 = .ok (.aload_n 0, 1) := by decide +kernel
theorem dX8_of_105 : decode cX8_of 105 = .ok (.getfield 10, 3) := by decide +kernel
theorem dX8_of_108 : decode cX8_of 108 = .ok (.getfield 142, 3) := by decide +kernel
theorem dX8_of_111 : decode cX8_of 111 = .ok (.iload_n 1, 1) := by decide +kernel
theorem dX8_of_112 : decode cX8_of 112 = .ok (.iaload, 1) := by decide +kernel
theorem dX8_of_113 : decode cX8_of 113 = .ok (.ireturn, 1) := by decide +kernel
theorem dX8_of_114 : decode cX8_of 114 = .ok (.aload_n 0, 1) := by decide +kernel
theorem dX8_of_115 : decode cX8_of 115 = .ok (.getfield 10, 3) := by decide +kernel
theorem dX8_of_118 : decode cX8_of 118 = .ok (.getfield 145, 3) := by decide +kernel
theorem dX8_of_121 : decode cX8_of 121 = .ok (.iload_n 1, 1) := by decide +kernel
theorem dX8_of_122 : decode cX8_of 122 = .ok (.iaload, 1) := by decide +kernel
theorem dX8_of_123 : decode cX8_of 123 = .ok (.ireturn, 1) := by decide +kernel
theorem dX8_of_124 : decode cX8_of 124 = .ok (.aload_n 0, 1) := by decide +kernel
theorem dX8_of_125 : decode cX8_of 125 = .ok (.getfield 10, 3) := by decide +kernel
theorem dX8_of_128 : decode cX8_of 128 = .ok (.iload_n 1, 1) := by decide +kernel
theorem dX8_of_129 : decode cX8_of 129 = .ok (.invokevirtual 148, 3) := by decide +kernel
theorem dX8_of_132 : decode cX8_of 132 = .ok (.ireturn, 1) := by decide +kernel
theorem dX8_of_133 : decode cX8_of 133 = .ok (.aload_n 0, 1) := by decide +kernel
theorem dX8_of_134 : decode cX8_of 134 = .ok (.getfield 10, 3) := by decide +kernel
theorem dX8_of_137 : decode cX8_of 137 = .ok (.iload_n 1, 1) := by decide +kernel
theorem dX8_of_138 : decode cX8_of 138 = .ok (.invokevirtual 151, 3) := by decide +kernel
theorem dX8_of_141 : decode cX8_of 141 = .ok (.ireturn, 1) := by decide +kernel
theorem dX8_of_142 : decode cX8_of 142 = .ok (.aload_n 0, 1) := by decide +kernel
theorem dX8_of_143 : decode cX8_of 143 = .ok (.bipush (-2), 2) := by decide +kernel
theorem dX8_of_145 : decode cX8_of 145 = .ok (.invokevirtual 94, 3) := by decide +kernel
theorem dX8_of_148 : decode cX8_of 148 = .ok (.ireturn, 1) := by decide +kernel
theorem dX8_reaches_0 : decode cX8_reaches 0 = .ok (.aload_n 0, 1) := by decide +kernel
theorem dX8_reaches_1 : decode cX8_reaches 1 = .ok (.getfield 10, 3) := by decide +kernel
theorem dX8_reaches_4 : decode cX8_reaches 4 = .ok (.iload_n 1, 1) := by decide +kernel
theorem dX8_reaches_5 : decode cX8_reaches 5 = .ok (.invokevirtual 154, 3) := by decide +kernel
theorem dX8_reaches_8 : decode cX8_reaches 8 = .ok (.ifCond .eq 23, 3) := by decide +kernel
theorem dX8_reaches_11 : decode cX8_reaches 11 = .ok (.aload_n 0, 1) := by decide +kernel
theorem dX8_reaches_12 : decode cX8_reaches 12 = .ok (.getfield 10, 3) := by decide +kernel
theorem dX8_reaches_15 : decode cX8_reaches 15 = .ok (.iconst 1, 1) := by decide +kernel
theorem dX8_reaches_16 : decode cX8_reaches 16 = .ok (.iload_n 1, 1) := by decide +kernel
theorem dX8_reaches_17 : decode cX8_reaches 17 = .ok (.ishl, 1) := by decide +kernel
theorem dX8_reaches_18 : decode cX8_reaches 18 = .ok (.aload_n 0, 1) := by decide +kernel
theorem dX8_reaches_19 : decode cX8_reaches 19 = .ok (.getfield 10, 3) := by decide +kernel
theorem dX8_reaches_22 : decode cX8_reaches 22 = .ok (.invokevirtual 157, 3) := by decide +kernel
theorem dX8_reaches_25 : decode cX8_reaches 25 = .ok (.invokevirtual 161, 3) := by decide +kernel
theorem dX8_reaches_28 : decode cX8_reaches 28 = .ok (.goto 8, 3) := by decide +kernel
theorem dX8_reaches_31 : decode cX8_reaches 31 = .ok (.aload_n 0, 1) := by decide +kernel
theorem dX8_reaches_32 : decode cX8_reaches 32 = .ok (.iconst (-1), 1) := by decide +kernel
theorem dX8_reaches_33 : decode cX8_reaches 33 = .ok (.invokevirtual 94, 3) := by decide +kernel
theorem dX8_reaches_36 : decode cX8_reaches 36 = .ok (.ireturn, 1) := by decide +kernel
theorem dX8_time_0 : decode cX8_time 0 = .ok (.aload_n 0, 1) := by decide +kernel
theorem dX8_time_1 : decode cX8_time 1 = .ok (.iload_n 1, 1) := by decide +kernel
theorem dX8_time_2 : decode cX8_time 2 = .ok (.iload_n 2, 1) := by decide +kernel
theorem dX8_time_3 : decode cX8_time 3 = .ok (.iload_n 3, 1) := by decide +kernel
theorem dX8_time_4 : decode cX8_time 4 = .ok (.invokevirtual 164, 3) := by decide +kernel
theorem dX8_time_7 : decode cX8_time 7 = .ok (.istore 4, 2) := by decide +kernel
theorem dX8_time_9 : decode cX8_time 9 = .ok (.iload 4, 2) := by decide +kernel
theorem dX8_time_11 : decode cX8_time 11 = .ok (.ifCond .eq 10, 3) := by decide +kernel
theorem dX8_time_14 : decode cX8_time 14 = .ok (.aload_n 0, 1) := by decide +kernel
theorem dX8_time_15 : decode cX8_time 15 = .ok (.iload 4, 2) := by decide +kernel
theorem dX8_time_17 : decode cX8_time 17 = .ok (.invokevirtual 167, 3) := by decide +kernel
theorem dX8_time_20 : decode cX8_time 20 = .ok (.lreturn, 1) := by decide +kernel
theorem dX8_time_21 : decode cX8_time 21 = .ok (.aload_n 0, 1) := by decide +kernel
theorem dX8_time_22 : decode cX8_time 22 = .ok (.getfield 29, 3) := by decide +kernel
theorem dX8_time_25 : decode cX8_time 25 = .ok (.aload_n 0, 1) := by decide +kernel
theorem dX8_time_26 : decode cX8_time 26 = .ok (.getfield 10, 3) := by decide +kernel
theorem dX8_time_29 : decode cX8_time 29 = .ok (.aload_n 0, 1) := by decide +kernel
theorem dX8_time_30 : decode cX8_time 30 = .ok (.getfield 10, 3) := by decide +kernel
theorem dX8_time_33 : decode cX8_time 33 = .ok (.invokevirtual 157, 3) := by decide +kernel
theorem dX8_time_36 : decode cX8_time 36 = .ok (.iload_n 2, 1) := by decide +kernel
theorem dX8_time_37 : decode cX8_time 37 = .ok (.invokevirtual 171, 3) := by decide +kernel
theorem dX8_time_40 : decode cX8_time 40 = .ok (.aload_n 0, 1) := by decide +kernel
theorem dX8_time_41 : decode cX8_time 41 = .ok (.getfield 29, 3) := by decide +kernel
theorem dX8_time_44 : decode cX8_time 44 = .ok (.getfield 175, 3) := by decide +kernel
theorem dX8_time_47 : decode cX8_time 47 = .ok (.iload_n 1, 1) := by decide +kernel
theorem dX8_time_48 : decode cX8_time 48 = .ok (.laload, 1) := by decide +kernel
theorem dX8_time_49 : decode cX8_time 49 = .ok (.aload_n 0, 1) := by decide +kernel
theorem dX8_time_50 : decode cX8_time 50 = .ok (.getfield 29, 3) := by decide +kernel
theorem dX8_time_53 : decode cX8_time 53 = .ok (.getfield 178, 3) := by decide +kernel
theorem dX8_time_56 : decode cX8_time 56 = .ok (.iload_n 3, 1) := by decide +kernel
theorem dX8_time_57 : decode cX8_time 57 = .ok (.invokestatic 182, 3) := by decide +kernel
theorem dX8_time_60 : decode cX8_time 60 = .ok (.lreturn, 1) := by decide +kernel
theorem dX8_steps_0 : decode cX8_steps 0 = .ok (.aload_n 0, 1) := by decide +kernel
theorem dX8_steps_1 : decode cX8_steps 1 = .ok (.iload_n 1, 1) := by decide +kernel
theorem dX8_steps_2 : decode cX8_steps 2 = .ok (.iload_n 2, 1) := by decide +kernel
theorem dX8_steps_3 : decode cX8_steps 3 = .ok (.iload_n 3, 1) := by decide +kernel
theorem dX8_steps_4 : decode cX8_steps 4 = .ok (.invokevirtual 164, 3) := by decide +kernel
theorem dX8_steps_7 : decode cX8_steps 7 = .ok (.istore 4, 2) := by decide +kernel
theorem dX8_steps_9 : decode cX8_steps 9 = .ok (.iload 4, 2) := by decide +kernel
theorem dX8_steps_11 : decode cX8_steps 11 = .ok (.ifCond .eq 10, 3) := by decide +kernel
theorem dX8_steps_14 : decode cX8_steps 14 = .ok (.aload_n 0, 1) := by decide +kernel
theorem dX8_steps_15 : decode cX8_steps 15 = .ok (.iload 4, 2) := by decide +kernel
theorem dX8_steps_17 : decode cX8_steps 17 = .ok (.invokevirtual 167, 3) := by decide +kernel
theorem dX8_steps_20 : decode cX8_steps 20 = .ok (.lreturn, 1) := by decide +kernel
theorem dX8_steps_21 : decode cX8_steps 21 = .ok (.aload_n 0, 1) := by decide +kernel
theorem dX8_steps_22 : decode cX8_steps 22 = .ok (.getfield 29, 3) := by decide +kernel
theorem dX8_steps_25 : decode cX8_steps 25 = .ok (.aload_n 0, 1) := by decide +kernel
theorem dX8_steps_26 : decode cX8_steps 26 = .ok (.getfield 10, 3) := by decide +kernel
theorem dX8_steps_29 : decode cX8_steps 29 = .ok (.aload_n 0, 1) := by decide +kernel
theorem dX8_steps_30 : decode cX8_steps 30 = .ok (.getfield 10, 3) := by decide +kernel
theorem dX8_steps_33 : decode cX8_steps 33 = .ok (.invokevirtual 157, 3) := by decide +kernel
theorem dX8_steps_36 : decode cX8_steps 36 = .ok (.iload_n 2, 1) := by decide +kernel
theorem dX8_steps_37 : decode cX8_steps 37 = .ok (.invokevirtual 186, 3) := by decide +kernel
theorem dX8_steps_40 : decode cX8_steps 40 = .ok (.aload_n 0, 1) := by decide +kernel
theorem dX8_steps_41 : decode cX8_steps 41 = .ok (.getfield 29, 3) := by decide +kernel
theorem dX8_steps_44 : decode cX8_steps 44 = .ok (.getfield 175, 3) := by decide +kernel
theorem dX8_steps_47 : decode cX8_steps 47 = .ok (.iload_n 1, 1) := by decide +kernel
theorem dX8_steps_48 : decode cX8_steps 48 = .ok (.laload, 1) := by decide +kernel
theorem dX8_steps_49 : decode cX8_steps 49 = .ok (.aload_n 0, 1) := by decide +kernel
theorem dX8_steps_50 : decode cX8_steps 50 = .ok (.getfield 29, 3) := by decide +kernel
theorem dX8_steps_53 : decode cX8_steps 53 = .ok (.getfield 178, 3) := by decide +kernel
theorem dX8_steps_56 : decode cX8_steps 56 = .ok (.iload_n 3, 1) := by decide +kernel
theorem dX8_steps_57 : decode cX8_steps 57 = .ok (.invokestatic 182, 3) := by decide +kernel
theorem dX8_steps_60 : decode cX8_steps 60 = .ok (.lreturn, 1) := by decide +kernel
theorem dX8_commute_0 : decode cX8_commute 0 = .ok (.aload_n 0, 1) := by decide +kernel
theorem dX8_commute_1 : decode cX8_commute 1 = .ok (.iload_n 1, 1) := by decide +kernel
theorem dX8_commute_2 : decode cX8_commute 2 = .ok (.iload_n 2, 1) := by decide +kernel
theorem dX8_commute_3 : decode cX8_commute 3 = .ok (.iload_n 3, 1) := by decide +kernel
theorem dX8_commute_4 : decode cX8_commute 4 = .ok (.invokevirtual 164, 3) := by decide +kernel
theorem dX8_commute_7 : decode cX8_commute 7 = .ok (.istore 4, 2) := by decide +kernel
theorem dX8_commute_9 : decode cX8_commute 9 = .ok (.iload 4, 2) := by decide +kernel
theorem dX8_commute_11 : decode cX8_commute 11 = .ok (.ifCond .eq 10, 3) := by decide +kernel
theorem dX8_commute_14 : decode cX8_commute 14 = .ok (.aload_n 0, 1) := by decide +kernel
theorem dX8_commute_15 : decode cX8_commute 15 = .ok (.iload 4, 2) := by decide +kernel
theorem dX8_commute_17 : decode cX8_commute 17 = .ok (.invokevirtual 167, 3) := by decide +kernel
theorem dX8_commute_20 : decode cX8_commute 20 = .ok (.lreturn, 1) := by decide +kernel
theorem dX8_commute_21 : decode cX8_commute 21 = .ok (.aload_n 0, 1) := by decide +kernel
theorem dX8_commute_22 : decode cX8_commute 22 = .ok (.iload_n 1, 1) := by decide +kernel
theorem dX8_commute_23 : decode cX8_commute 23 = .ok (.iload_n 2, 1) := by decide +kernel
theorem dX8_commute_24 : decode cX8_commute 24 = .ok (.invokevirtual 189, 3) := by decide +kernel
theorem dX8_commute_27 : decode cX8_commute 27 = .ok (.lstore 5, 2) := by decide +kernel
theorem dX8_commute_29 : decode cX8_commute 29 = .ok (.lload 5, 2) := by decide +kernel
theorem dX8_commute_31 : decode cX8_commute 31 = .ok (.aload_n 0, 1) := by decide +kernel
theorem dX8_commute_32 : decode cX8_commute 32 = .ok (.getfield 29, 3) := by decide +kernel
theorem dX8_commute_35 : decode cX8_commute 35 = .ok (.getfield 178, 3) := by decide +kernel
theorem dX8_commute_38 : decode cX8_commute 38 = .ok (.iload_n 3, 1) := by decide +kernel
theorem dX8_commute_39 : decode cX8_commute 39 = .ok (.invokestatic 182, 3) := by decide +kernel
theorem dX8_commute_42 : decode cX8_commute 42 = .ok (.lreturn, 1) := by decide +kernel
theorem dX8_visits_0 : decode cX8_visits 0 = .ok (.aload_n 0, 1) := by decide +kernel
theorem dX8_visits_1 : decode cX8_visits 1 = .ok (.getfield 10, 3) := by decide +kernel
theorem dX8_visits_4 : decode cX8_visits 4 = .ok (.iload_n 3, 1) := by decide +kernel
theorem dX8_visits_5 : decode cX8_visits 5 = .ok (.invokevirtual 154, 3) := by decide +kernel
theorem dX8_visits_8 : decode cX8_visits 8 = .ok (.ifCond .eq 8, 3) := by decide +kernel
theorem dX8_visits_11 : decode cX8_visits 11 = .ok (.iload_n 3, 1) := by decide +kernel
theorem dX8_visits_12 : decode cX8_visits 12 = .ok (.iload_n 2, 1) := by decide +kernel
theorem dX8_visits_13 : decode cX8_visits 13 = .ok (.if_icmp .ne 7, 3) := by decide +kernel
theorem dX8_visits_16 : decode cX8_visits 16 = .ok (.iconst (-1), 1) := by decide +kernel
theorem dX8_visits_17 : decode cX8_visits 17 = .ok (.goto 11, 3) := by decide +kernel
theorem dX8_visits_20 : decode cX8_visits 20 = .ok (.aload_n 0, 1) := by decide +kernel
theorem dX8_visits_21 : decode cX8_visits 21 = .ok (.iload_n 1, 1) := by decide +kernel
theorem dX8_visits_22 : decode cX8_visits 22 = .ok (.iload_n 2, 1) := by decide +kernel
theorem dX8_visits_23 : decode cX8_visits 23 = .ok (.iload 4, 2) := by decide +kernel
theorem dX8_visits_25 : decode cX8_visits 25 = .ok (.invokevirtual 164, 3) := by decide +kernel
theorem dX8_visits_28 : decode cX8_visits 28 = .ok (.istore 5, 2) := by decide +kernel
theorem dX8_visits_30 : decode cX8_visits 30 = .ok (.iload 5, 2) := by decide +kernel
theorem dX8_visits_32 : decode cX8_visits 32 = .ok (.ifCond .eq 10, 3) := by decide +kernel
theorem dX8_visits_35 : decode cX8_visits 35 = .ok (.aload_n 0, 1) := by decide +kernel
theorem dX8_visits_36 : decode cX8_visits 36 = .ok (.iload 5, 2) := by decide +kernel
theorem dX8_visits_38 : decode cX8_visits 38 = .ok (.invokevirtual 167, 3) := by decide +kernel
theorem dX8_visits_41 : decode cX8_visits 41 = .ok (.lreturn, 1) := by decide +kernel
theorem dX8_visits_42 : decode cX8_visits 42 = .ok (.aload_n 0, 1) := by decide +kernel
theorem dX8_visits_43 : decode cX8_visits 43 = .ok (.getfield 29, 3) := by decide +kernel
theorem dX8_visits_46 : decode cX8_visits 46 = .ok (.aload_n 0, 1) := by decide +kernel
theorem dX8_visits_47 : decode cX8_visits 47 = .ok (.getfield 10, 3) := by decide +kernel
theorem dX8_visits_50 : decode cX8_visits 50 = .ok (.aload_n 0, 1) := by decide +kernel
theorem dX8_visits_51 : decode cX8_visits 51 = .ok (.getfield 10, 3) := by decide +kernel
theorem dX8_visits_54 : decode cX8_visits 54 = .ok (.invokevirtual 157, 3) := by decide +kernel
theorem dX8_visits_57 : decode cX8_visits 57 = .ok (.iload_n 1, 1) := by decide +kernel
theorem dX8_visits_58 : decode cX8_visits 58 = .ok (.iload_n 2, 1) := by decide +kernel
theorem dX8_visits_59 : decode cX8_visits 59 = .ok (.invokevirtual 193, 3) := by decide +kernel
theorem dX8_visits_62 : decode cX8_visits 62 = .ok (.aload_n 0, 1) := by decide +kernel
theorem dX8_visits_63 : decode cX8_visits 63 = .ok (.getfield 10, 3) := by decide +kernel
theorem dX8_visits_66 : decode cX8_visits 66 = .ok (.iload_n 3, 1) := by decide +kernel
theorem dX8_visits_67 : decode cX8_visits 67 = .ok (.invokevirtual 197, 3) := by decide +kernel
theorem dX8_visits_70 : decode cX8_visits 70 = .ok (.i2l, 1) := by decide +kernel
theorem dX8_visits_71 : decode cX8_visits 71 = .ok (.aload_n 0, 1) := by decide +kernel
theorem dX8_visits_72 : decode cX8_visits 72 = .ok (.getfield 29, 3) := by decide +kernel
theorem dX8_visits_75 : decode cX8_visits 75 = .ok (.getfield 175, 3) := by decide +kernel
theorem dX8_visits_78 : decode cX8_visits 78 = .ok (.iload_n 3, 1) := by decide +kernel
theorem dX8_visits_79 : decode cX8_visits 79 = .ok (.laload, 1) := by decide +kernel
theorem dX8_visits_80 : decode cX8_visits 80 = .ok (.lmul, 1) := by decide +kernel
theorem dX8_visits_81 : decode cX8_visits 81 = .ok (.lstore 6, 2) := by decide +kernel
theorem dX8_visits_83 : decode cX8_visits 83 = .ok (.lload 6, 2) := by decide +kernel
theorem dX8_visits_85 : decode cX8_visits 85 = .ok (.aload_n 0, 1) := by decide +kernel
theorem dX8_visits_86 : decode cX8_visits 86 = .ok (.getfield 29, 3) := by decide +kernel
theorem dX8_visits_89 : decode cX8_visits 89 = .ok (.getfield 178, 3) := by decide +kernel
theorem dX8_visits_92 : decode cX8_visits 92 = .ok (.iload 4, 2) := by decide +kernel
theorem dX8_visits_94 : decode cX8_visits 94 = .ok (.invokestatic 182, 3) := by decide +kernel
theorem dX8_visits_97 : decode cX8_visits 97 = .ok (.lreturn, 1) := by decide +kernel
theorem dX8_resistance_0 : decode cX8_resistance 0 = .ok (.aload_n 0, 1) := by decide +kernel
theorem dX8_resistance_1 : decode cX8_resistance 1 = .ok (.iload_n 1, 1) := by decide +kernel
theorem dX8_resistance_2 : decode cX8_resistance 2 = .ok (.iload_n 2, 1) := by decide +kernel
theorem dX8_resistance_3 : decode cX8_resistance 3 = .ok (.iload_n 3, 1) := by decide +kernel
theorem dX8_resistance_4 : decode cX8_resistance 4 = .ok (.invokevirtual 164, 3) := by decide +kernel
theorem dX8_resistance_7 : decode cX8_resistance 7 = .ok (.istore 4, 2) := by decide +kernel
theorem dX8_resistance_9 : decode cX8_resistance 9 = .ok (.iload 4, 2) := by decide +kernel
theorem dX8_resistance_11 : decode cX8_resistance 11 = .ok (.ifCond .eq 10, 3) := by decide +kernel
theorem dX8_resistance_14 : decode cX8_resistance 14 = .ok (.aload_n 0, 1) := by decide +kernel
theorem dX8_resistance_15 : decode cX8_resistance 15 = .ok (.iload 4, 2) := by decide +kernel
theorem dX8_resistance_17 : decode cX8_resistance 17 = .ok (.invokevirtual 167, 3) := by decide +kernel
theorem dX8_resistance_20 : decode cX8_resistance 20 = .ok (.lreturn, 1) := by decide +kernel
theorem dX8_resistance_21 : decode cX8_resistance 21 = .ok (.aload_n 0, 1) := by decide +kernel
theorem dX8_resistance_22 : decode cX8_resistance 22 = .ok (.getfield 29, 3) := by decide +kernel
theorem dX8_resistance_25 : decode cX8_resistance 25 = .ok (.aload_n 0, 1) := by decide +kernel
theorem dX8_resistance_26 : decode cX8_resistance 26 = .ok (.getfield 10, 3) := by decide +kernel
theorem dX8_resistance_29 : decode cX8_resistance 29 = .ok (.aload_n 0, 1) := by decide +kernel
theorem dX8_resistance_30 : decode cX8_resistance 30 = .ok (.getfield 10, 3) := by decide +kernel
theorem dX8_resistance_33 : decode cX8_resistance 33 = .ok (.invokevirtual 157, 3) := by decide +kernel
theorem dX8_resistance_36 : decode cX8_resistance 36 = .ok (.iload_n 1, 1) := by decide +kernel
theorem dX8_resistance_37 : decode cX8_resistance 37 = .ok (.iload_n 2, 1) := by decide +kernel
theorem dX8_resistance_38 : decode cX8_resistance 38 = .ok (.invokevirtual 193, 3) := by decide +kernel
theorem dX8_resistance_41 : decode cX8_resistance 41 = .ok (.aload_n 0, 1) := by decide +kernel
theorem dX8_resistance_42 : decode cX8_resistance 42 = .ok (.getfield 29, 3) := by decide +kernel
theorem dX8_resistance_45 : decode cX8_resistance 45 = .ok (.getfield 175, 3) := by decide +kernel
theorem dX8_resistance_48 : decode cX8_resistance 48 = .ok (.iload_n 1, 1) := by decide +kernel
theorem dX8_resistance_49 : decode cX8_resistance 49 = .ok (.laload, 1) := by decide +kernel
theorem dX8_resistance_50 : decode cX8_resistance 50 = .ok (.aload_n 0, 1) := by decide +kernel
theorem dX8_resistance_51 : decode cX8_resistance 51 = .ok (.getfield 29, 3) := by decide +kernel
theorem dX8_resistance_54 : decode cX8_resistance 54 = .ok (.getfield 178, 3) := by decide +kernel
theorem dX8_resistance_57 : decode cX8_resistance 57 = .ok (.iload_n 3, 1) := by decide +kernel
theorem dX8_resistance_58 : decode cX8_resistance 58 = .ok (.invokestatic 182, 3) := by decide +kernel
theorem dX8_resistance_61 : decode cX8_resistance 61 = .ok (.lreturn, 1) := by decide +kernel
theorem dX8_ahead_0 : decode cX8_ahead 0 = .ok (.aload_n 0, 1) := by decide +kernel
theorem dX8_ahead_1 : decode cX8_ahead 1 = .ok (.iload_n 1, 1) := by decide +kernel
theorem dX8_ahead_2 : decode cX8_ahead 2 = .ok (.iload_n 2, 1) := by decide +kernel
theorem dX8_ahead_3 : decode cX8_ahead 3 = .ok (.iload_n 3, 1) := by decide +kernel
theorem dX8_ahead_4 : decode cX8_ahead 4 = .ok (.iload 4, 2) := by decide +kernel
theorem dX8_ahead_6 : decode cX8_ahead 6 = .ok (.invokevirtual 200, 3) := by decide +kernel
theorem dX8_ahead_9 : decode cX8_ahead 9 = .ok (.istore 5, 2) := by decide +kernel
theorem dX8_ahead_11 : decode cX8_ahead 11 = .ok (.iload 5, 2) := by decide +kernel
theorem dX8_ahead_13 : decode cX8_ahead 13 = .ok (.ifCond .eq 10, 3) := by decide +kernel
theorem dX8_ahead_16 : decode cX8_ahead 16 = .ok (.aload_n 0, 1) := by decide +kernel
theorem dX8_ahead_17 : decode cX8_ahead 17 = .ok (.iload 5, 2) := by decide +kernel
theorem dX8_ahead_19 : decode cX8_ahead 19 = .ok (.invokevirtual 167, 3) := by decide +kernel
theorem dX8_ahead_22 : decode cX8_ahead 22 = .ok (.lreturn, 1) := by decide +kernel
theorem dX8_ahead_23 : decode cX8_ahead 23 = .ok (.iload_n 2, 1) := by decide +kernel
theorem dX8_ahead_24 : decode cX8_ahead 24 = .ok (.iload_n 1, 1) := by decide +kernel
theorem dX8_ahead_25 : decode cX8_ahead 25 = .ok (.invokestatic 203, 3) := by decide +kernel
theorem dX8_ahead_28 : decode cX8_ahead 28 = .ok (.ifCond .eq 20, 3) := by decide +kernel
theorem dX8_ahead_31 : decode cX8_ahead 31 = .ok (.iload_n 1, 1) := by decide +kernel
theorem dX8_ahead_32 : decode cX8_ahead 32 = .ok (.iload_n 3, 1) := by decide +kernel
theorem dX8_ahead_33 : decode cX8_ahead 33 = .ok (.if_icmp .ne 7, 3) := by decide +kernel
theorem dX8_ahead_36 : decode cX8_ahead 36 = .ok (.lconst 1, 1) := by decide +kernel
theorem dX8_ahead_37 : decode cX8_ahead 37 = .ok (.goto 4, 3) := by decide +kernel
theorem dX8_ahead_40 : decode cX8_ahead 40 = .ok (.lconst 0, 1) := by decide +kernel
theorem dX8_ahead_41 : decode cX8_ahead 41 = .ok (.lconst 1, 1) := by decide +kernel
theorem dX8_ahead_42 : decode cX8_ahead 42 = .ok (.iload 4, 2) := by decide +kernel
theorem dX8_ahead_44 : decode cX8_ahead 44 = .ok (.invokestatic 182, 3) := by decide +kernel
theorem dX8_ahead_47 : decode cX8_ahead 47 = .ok (.lreturn, 1) := by decide +kernel
theorem dX8_ahead_48 : decode cX8_ahead 48 = .ok (.aload_n 0, 1) := by decide +kernel
theorem dX8_ahead_49 : decode cX8_ahead 49 = .ok (.getfield 29, 3) := by decide +kernel
theorem dX8_ahead_52 : decode cX8_ahead 52 = .ok (.aload_n 0, 1) := by decide +kernel
theorem dX8_ahead_53 : decode cX8_ahead 53 = .ok (.getfield 10, 3) := by decide +kernel
theorem dX8_ahead_56 : decode cX8_ahead 56 = .ok (.aload_n 0, 1) := by decide +kernel
theorem dX8_ahead_57 : decode cX8_ahead 57 = .ok (.getfield 10, 3) := by decide +kernel
theorem dX8_ahead_60 : decode cX8_ahead 60 = .ok (.invokevirtual 157, 3) := by decide +kernel
theorem dX8_ahead_63 : decode cX8_ahead 63 = .ok (.iload_n 2, 1) := by decide +kernel
theorem dX8_ahead_64 : decode cX8_ahead 64 = .ok (.iload_n 3, 1) := by decide +kernel
theorem dX8_ahead_65 : decode cX8_ahead 65 = .ok (.invokevirtual 207, 3) := by decide +kernel
theorem dX8_ahead_68 : decode cX8_ahead 68 = .ok (.aload_n 0, 1) := by decide +kernel
theorem dX8_ahead_69 : decode cX8_ahead 69 = .ok (.getfield 29, 3) := by decide +kernel
theorem dX8_ahead_72 : decode cX8_ahead 72 = .ok (.getfield 175, 3) := by decide +kernel
theorem dX8_ahead_75 : decode cX8_ahead 75 = .ok (.iload_n 1, 1) := by decide +kernel
theorem dX8_ahead_76 : decode cX8_ahead 76 = .ok (.laload, 1) := by decide +kernel
theorem dX8_ahead_77 : decode cX8_ahead 77 = .ok (.aload_n 0, 1) := by decide +kernel
theorem dX8_ahead_78 : decode cX8_ahead 78 = .ok (.getfield 29, 3) := by decide +kernel
theorem dX8_ahead_81 : decode cX8_ahead 81 = .ok (.getfield 178, 3) := by decide +kernel
theorem dX8_ahead_84 : decode cX8_ahead 84 = .ok (.iload 4, 2) := by decide +kernel
theorem dX8_ahead_86 : decode cX8_ahead 86 = .ok (.invokestatic 182, 3) := by decide +kernel
theorem dX8_ahead_89 : decode cX8_ahead 89 = .ok (.lreturn, 1) := by decide +kernel
theorem dX8_flow_0 : decode cX8_flow 0 = .ok (.aload_n 0, 1) := by decide +kernel
theorem dX8_flow_1 : decode cX8_flow 1 = .ok (.getfield 10, 3) := by decide +kernel
theorem dX8_flow_4 : decode cX8_flow 4 = .ok (.iload_n 1, 1) := by decide +kernel
theorem dX8_flow_5 : decode cX8_flow 5 = .ok (.invokevirtual 126, 3) := by decide +kernel
theorem dX8_flow_8 : decode cX8_flow 8 = .ok (.ifCond .eq 8, 3) := by decide +kernel
theorem dX8_flow_11 : decode cX8_flow 11 = .ok (.iload_n 2, 1) := by decide +kernel
theorem dX8_flow_12 : decode cX8_flow 12 = .ok (.iload_n 3, 1) := by decide +kernel
theorem dX8_flow_13 : decode cX8_flow 13 = .ok (.if_icmp .ne 7, 3) := by decide +kernel
theorem dX8_flow_16 : decode cX8_flow 16 = .ok (.iconst (-1), 1) := by decide +kernel
theorem dX8_flow_17 : decode cX8_flow 17 = .ok (.goto 11, 3) := by decide +kernel
theorem dX8_flow_20 : decode cX8_flow 20 = .ok (.aload_n 0, 1) := by decide +kernel
theorem dX8_flow_21 : decode cX8_flow 21 = .ok (.iload_n 2, 1) := by decide +kernel
theorem dX8_flow_22 : decode cX8_flow 22 = .ok (.iload_n 3, 1) := by decide +kernel
theorem dX8_flow_23 : decode cX8_flow 23 = .ok (.iload 4, 2) := by decide +kernel
theorem dX8_flow_25 : decode cX8_flow 25 = .ok (.invokevirtual 164, 3) := by decide +kernel
theorem dX8_flow_28 : decode cX8_flow 28 = .ok (.istore 5, 2) := by decide +kernel
theorem dX8_flow_30 : decode cX8_flow 30 = .ok (.iload 5, 2) := by decide +kernel
theorem dX8_flow_32 : decode cX8_flow 32 = .ok (.ifCond .eq 10, 3) := by decide +kernel
theorem dX8_flow_35 : decode cX8_flow 35 = .ok (.aload_n 0, 1) := by decide +kernel
theorem dX8_flow_36 : decode cX8_flow 36 = .ok (.iload 5, 2) := by decide +kernel
theorem dX8_flow_38 : decode cX8_flow 38 = .ok (.invokevirtual 167, 3) := by decide +kernel
theorem dX8_flow_41 : decode cX8_flow 41 = .ok (.lreturn, 1) := by decide +kernel
theorem dX8_flow_42 : decode cX8_flow 42 = .ok (.aload_n 0, 1) := by decide +kernel
theorem dX8_flow_43 : decode cX8_flow 43 = .ok (.getfield 29, 3) := by decide +kernel
theorem dX8_flow_46 : decode cX8_flow 46 = .ok (.aload_n 0, 1) := by decide +kernel
theorem dX8_flow_47 : decode cX8_flow 47 = .ok (.getfield 10, 3) := by decide +kernel
theorem dX8_flow_50 : decode cX8_flow 50 = .ok (.aload_n 0, 1) := by decide +kernel
theorem dX8_flow_51 : decode cX8_flow 51 = .ok (.getfield 10, 3) := by decide +kernel
theorem dX8_flow_54 : decode cX8_flow 54 = .ok (.invokevirtual 157, 3) := by decide +kernel
theorem dX8_flow_57 : decode cX8_flow 57 = .ok (.iload_n 2, 1) := by decide +kernel
theorem dX8_flow_58 : decode cX8_flow 58 = .ok (.iload_n 3, 1) := by decide +kernel
theorem dX8_flow_59 : decode cX8_flow 59 = .ok (.invokevirtual 193, 3) := by decide +kernel
theorem dX8_flow_62 : decode cX8_flow 62 = .ok (.aload_n 0, 1) := by decide +kernel
theorem dX8_flow_63 : decode cX8_flow 63 = .ok (.getfield 29, 3) := by decide +kernel
theorem dX8_flow_66 : decode cX8_flow 66 = .ok (.getfield 175, 3) := by decide +kernel
theorem dX8_flow_69 : decode cX8_flow 69 = .ok (.aload_n 0, 1) := by decide +kernel
theorem dX8_flow_70 : decode cX8_flow 70 = .ok (.getfield 10, 3) := by decide +kernel
theorem dX8_flow_73 : decode cX8_flow 73 = .ok (.getfield 130, 3) := by decide +kernel
theorem dX8_flow_76 : decode cX8_flow 76 = .ok (.iload_n 1, 1) := by decide +kernel
theorem dX8_flow_77 : decode cX8_flow 77 = .ok (.iaload, 1) := by decide +kernel
theorem dX8_flow_78 : decode cX8_flow 78 = .ok (.laload, 1) := by decide +kernel
theorem dX8_flow_79 : decode cX8_flow 79 = .ok (.aload_n 0, 1) := by decide +kernel
theorem dX8_flow_80 : decode cX8_flow 80 = .ok (.getfield 29, 3) := by decide +kernel
theorem dX8_flow_83 : decode cX8_flow 83 = .ok (.getfield 175, 3) := by decide +kernel
theorem dX8_flow_86 : decode cX8_flow 86 = .ok (.aload_n 0, 1) := by decide +kernel
theorem dX8_flow_87 : decode cX8_flow 87 = .ok (.getfield 10, 3) := by decide +kernel
theorem dX8_flow_90 : decode cX8_flow 90 = .ok (.getfield 133, 3) := by decide +kernel
theorem dX8_flow_93 : decode cX8_flow 93 = .ok (.iload_n 1, 1) := by decide +kernel
theorem dX8_flow_94 : decode cX8_flow 94 = .ok (.iaload, 1) := by decide +kernel
theorem dX8_flow_95 : decode cX8_flow 95 = .ok (.laload, 1) := by decide +kernel
theorem dX8_flow_96 : decode cX8_flow 96 = .ok (.lsub, 1) := by decide +kernel
theorem dX8_flow_97 : decode cX8_flow 97 = .ok (.lstore 6, 2) := by decide +kernel
theorem dX8_flow_99 : decode cX8_flow 99 = .ok (.aload_n 0, 1) := by decide +kernel
theorem dX8_flow_100 : decode cX8_flow 100 = .ok (.getfield 10, 3) := by decide +kernel
theorem dX8_flow_103 : decode cX8_flow 103 = .ok (.iload_n 1, 1) := by decide +kernel
theorem dX8_flow_104 : decode cX8_flow 104 = .ok (.invokevirtual 148, 3) := by decide +kernel
theorem dX8_flow_107 : decode cX8_flow 107 = .ok (.i2l, 1) := by decide +kernel
theorem dX8_flow_108 : decode cX8_flow 108 = .ok (.lload 6, 2) := by decide +kernel
theorem dX8_flow_110 : decode cX8_flow 110 = .ok (.lmul, 1) := by decide +kernel
theorem dX8_flow_111 : decode cX8_flow 111 = .ok (.aload_n 0, 1) := by decide +kernel
theorem dX8_flow_112 : decode cX8_flow 112 = .ok (.getfield 29, 3) := by decide +kernel
theorem dX8_flow_115 : decode cX8_flow 115 = .ok (.getfield 178, 3) := by decide +kernel
theorem dX8_flow_118 : decode cX8_flow 118 = .ok (.iload 4, 2) := by decide +kernel
theorem dX8_flow_120 : decode cX8_flow 120 = .ok (.invokestatic 182, 3) := by decide +kernel
theorem dX8_flow_123 : decode cX8_flow 123 = .ok (.lreturn, 1) := by decide +kernel
theorem dX8_added_0 : decode cX8_added 0 = .ok (.aload_n 0, 1) := by decide +kernel
theorem dX8_added_1 : decode cX8_added 1 = .ok (.iload_n 1, 1) := by decide +kernel
theorem dX8_added_2 : decode cX8_added 2 = .ok (.iload_n 2, 1) := by decide +kernel
theorem dX8_added_3 : decode cX8_added 3 = .ok (.invokevirtual 210, 3) := by decide +kernel
theorem dX8_added_6 : decode cX8_added 6 = .ok (.ifCond .ne 9, 3) := by decide +kernel
theorem dX8_added_9 : decode cX8_added 9 = .ok (.aload_n 0, 1) := by decide +kernel
theorem dX8_added_10 : decode cX8_added 10 = .ok (.iconst (-1), 1) := by decide +kernel
theorem dX8_added_11 : decode cX8_added 11 = .ok (.invokevirtual 94, 3) := by decide +kernel
theorem dX8_added_14 : decode cX8_added 14 = .ok (.ireturn, 1) := by decide +kernel
theorem dX8_added_15 : decode cX8_added 15 = .ok (.aload_n 0, 1) := by decide +kernel
theorem dX8_added_16 : decode cX8_added 16 = .ok (.getfield 10, 3) := by decide +kernel
theorem dX8_added_19 : decode cX8_added 19 = .ok (.iconst 1, 1) := by decide +kernel
theorem dX8_added_20 : decode cX8_added 20 = .ok (.iload_n 1, 1) := by decide +kernel
theorem dX8_added_21 : decode cX8_added 21 = .ok (.ishl, 1) := by decide +kernel
theorem dX8_added_22 : decode cX8_added 22 = .ok (.aload_n 0, 1) := by decide +kernel
theorem dX8_added_23 : decode cX8_added 23 = .ok (.getfield 10, 3) := by decide +kernel
theorem dX8_added_26 : decode cX8_added 26 = .ok (.invokevirtual 157, 3) := by decide +kernel
theorem dX8_added_29 : decode cX8_added 29 = .ok (.invokevirtual 161, 3) := by decide +kernel
theorem dX8_added_32 : decode cX8_added 32 = .ok (.iload_n 2, 1) := by decide +kernel
theorem dX8_added_33 : decode cX8_added 33 = .ok (.invokestatic 203, 3) := by decide +kernel
theorem dX8_added_36 : decode cX8_added 36 = .ok (.istore_n 3, 1) := by decide +kernel
theorem dX8_added_37 : decode cX8_added 37 = .ok (.aload_n 0, 1) := by decide +kernel
theorem dX8_added_38 : decode cX8_added 38 = .ok (.getfield 29, 3) := by decide +kernel
theorem dX8_added_41 : decode cX8_added 41 = .ok (.aload_n 0, 1) := by decide +kernel
theorem dX8_added_42 : decode cX8_added 42 = .ok (.getfield 10, 3) := by decide +kernel
theorem dX8_added_45 : decode cX8_added 45 = .ok (.aload_n 0, 1) := by decide +kernel
theorem dX8_added_46 : decode cX8_added 46 = .ok (.getfield 10, 3) := by decide +kernel
theorem dX8_added_49 : decode cX8_added 49 = .ok (.invokevirtual 157, 3) := by decide +kernel
theorem dX8_added_52 : decode cX8_added 52 = .ok (.iload_n 2, 1) := by decide +kernel
theorem dX8_added_53 : decode cX8_added 53 = .ok (.invokevirtual 171, 3) := by decide +kernel
theorem dX8_added_56 : decode cX8_added 56 = .ok (.aload_n 0, 1) := by decide +kernel
theorem dX8_added_57 : decode cX8_added 57 = .ok (.getfield 29, 3) := by decide +kernel
theorem dX8_added_60 : decode cX8_added 60 = .ok (.getfield 175, 3) := by decide +kernel
theorem dX8_added_63 : decode cX8_added 63 = .ok (.iload_n 1, 1) := by decide +kernel
theorem dX8_added_64 : decode cX8_added 64 = .ok (.laload, 1) := by decide +kernel
theorem dX8_added_65 : decode cX8_added 65 = .ok (.lstore 4, 2) := by decide +kernel
theorem dX8_added_67 : decode cX8_added 67 = .ok (.aload_n 0, 1) := by decide +kernel
theorem dX8_added_68 : decode cX8_added 68 = .ok (.getfield 29, 3) := by decide +kernel
theorem dX8_added_71 : decode cX8_added 71 = .ok (.getfield 178, 3) := by decide +kernel
theorem dX8_added_74 : decode cX8_added 74 = .ok (.lstore 6, 2) := by decide +kernel
theorem dX8_added_76 : decode cX8_added 76 = .ok (.bipush (-9), 2) := by decide +kernel
theorem dX8_added_78 : decode cX8_added 78 = .ok (.istore 8, 2) := by decide +kernel
theorem dX8_added_80 : decode cX8_added 80 = .ok (.aload_n 0, 1) := by decide +kernel
theorem dX8_added_81 : decode cX8_added 81 = .ok (.getfield 16, 3) := by decide +kernel
theorem dX8_added_84 : decode cX8_added 84 = .ok (.aload_n 0, 1) := by decide +kernel
theorem dX8_added_85 : decode cX8_added 85 = .ok (.getfield 10, 3) := by decide +kernel
theorem dX8_added_88 : decode cX8_added 88 = .ok (.invokevirtual 97, 3) := by decide +kernel
theorem dX8_added_91 : decode cX8_added 91 = .ok (.aload_n 0, 1) := by decide +kernel
theorem dX8_added_92 : decode cX8_added 92 = .ok (.getfield 16, 3) := by decide +kernel
theorem dX8_added_95 : decode cX8_added 95 = .ok (.invokevirtual 213, 3) := by decide +kernel
theorem dX8_added_98 : decode cX8_added 98 = .ok (.istore 9, 2) := by decide +kernel
theorem dX8_added_100 : decode cX8_added 100 = .ok (.iconst 0, 1) := by decide +kernel
theorem dX8_added_101 : decode cX8_added 101 = .ok (.istore 10, 2) := by decide +kernel
theorem dX8_added_103 : decode cX8_added 103 = .ok (.iload 10, 2) := by decide +kernel
theorem dX8_added_105 : decode cX8_added 105 = .ok (.aload_n 0, 1) := by decide +kernel
theorem dX8_added_106 : decode cX8_added 106 = .ok (.getfield 10, 3) := by decide +kernel
theorem dX8_added_109 : decode cX8_added 109 = .ok (.getfield 216, 3) := by decide +kernel
theorem dX8_added_112 : decode cX8_added 112 = .ok (.if_icmp .ge 156, 3) := by decide +kernel
theorem dX8_added_115 : decode cX8_added 115 = .ok (.iload 10, 2) := by decide +kernel
theorem dX8_added_117 : decode cX8_added 117 = .ok (.iconst 1, 1) := by decide +kernel
theorem dX8_added_118 : decode cX8_added 118 = .ok (.iadd, 1) := by decide +kernel
theorem dX8_added_119 : decode cX8_added 119 = .ok (.istore 11, 2) := by decide +kernel
theorem dX8_added_121 : decode cX8_added 121 = .ok (.iload 11, 2) := by decide +kernel
theorem dX8_added_123 : decode cX8_added 123 = .ok (.aload_n 0, 1) := by decide +kernel
theorem dX8_added_124 : decode cX8_added 124 = .ok (.getfield 10, 3) := by decide +kernel
theorem dX8_added_127 : decode cX8_added 127 = .ok (.getfield 216, 3) := by decide +kernel
theorem dX8_added_130 : decode cX8_added 130 = .ok (.if_icmp .ge 132, 3) := by decide +kernel
theorem dX8_added_133 : decode cX8_added 133 = .ok (.aload_n 0, 1) := by decide +kernel
theorem dX8_added_134 : decode cX8_added 134 = .ok (.getfield 16, 3) := by decide +kernel
theorem dX8_added_137 : decode cX8_added 137 = .ok (.iload 9, 2) := by decide +kernel
theorem dX8_added_139 : decode cX8_added 139 = .ok (.iload 10, 2) := by decide +kernel
theorem dX8_added_141 : decode cX8_added 141 = .ok (.iload 11, 2) := by decide +kernel
theorem dX8_added_143 : decode cX8_added 143 = .ok (.iconst 1, 1) := by decide +kernel
theorem dX8_added_144 : decode cX8_added 144 = .ok (.iconst 1, 1) := by decide +kernel
theorem dX8_added_145 : decode cX8_added 145 = .ok (.invokevirtual 219, 3) := by decide +kernel
theorem dX8_added_148 : decode cX8_added 148 = .ok (.aload_n 0, 1) := by decide +kernel
theorem dX8_added_149 : decode cX8_added 149 = .ok (.getfield 16, 3) := by decide +kernel
theorem dX8_added_152 : decode cX8_added 152 = .ok (.iconst 1, 1) := by decide +kernel
theorem dX8_added_153 : decode cX8_added 153 = .ok (.iload_n 1, 1) := by decide +kernel
theorem dX8_added_154 : decode cX8_added 154 = .ok (.ishl, 1) := by decide +kernel
theorem dX8_added_155 : decode cX8_added 155 = .ok (.aload_n 0, 1) := by decide +kernel
theorem dX8_added_156 : decode cX8_added 156 = .ok (.getfield 16, 3) := by decide +kernel
theorem dX8_added_159 : decode cX8_added 159 = .ok (.invokevirtual 157, 3) := by decide +kernel
theorem dX8_added_162 : decode cX8_added 162 = .ok (.invokevirtual 161, 3) := by decide +kernel
theorem dX8_added_165 : decode cX8_added 165 = .ok (.iload_n 2, 1) := by decide +kernel
theorem dX8_added_166 : decode cX8_added 166 = .ok (.invokestatic 203, 3) := by decide +kernel
theorem dX8_added_169 : decode cX8_added 169 = .ok (.ifCond .ne 6, 3) := by decide +kernel
theorem dX8_added_172 : decode cX8_added 172 = .ok (.goto 84, 3) := by decide +kernel
theorem dX8_added_175 : decode cX8_added 175 = .ok (.aload_n 0, 1) := by decide +kernel
theorem dX8_added_176 : decode cX8_added 176 = .ok (.getfield 29, 3) := by decide +kernel
theorem dX8_added_179 : decode cX8_added 179 = .ok (.aload_n 0, 1) := by decide +kernel
theorem dX8_added_180 : decode cX8_added 180 = .ok (.getfield 16, 3) := by decide +kernel
theorem dX8_added_183 : decode cX8_added 183 = .ok (.aload_n 0, 1) := by decide +kernel
theorem dX8_added_184 : decode cX8_added 184 = .ok (.getfield 16, 3) := by decide +kernel
theorem dX8_added_187 : decode cX8_added 187 = .ok (.invokevirtual 157, 3) := by decide +kernel
theorem dX8_added_190 : decode cX8_added 190 = .ok (.iload_n 2, 1) := by decide +kernel
theorem dX8_added_191 : decode cX8_added 191 = .ok (.invokevirtual 171, 3) := by decide +kernel
theorem dX8_added_194 : decode cX8_added 194 = .ok (.iload_n 3, 1) := by decide +kernel
theorem dX8_added_195 : decode cX8_added 195 = .ok (.ifCond .eq 29, 3) := by decide +kernel
theorem dX8_added_198 : decode cX8_added 198 = .ok (.aload_n 0, 1) := by decide +kernel
theorem dX8_added_199 : decode cX8_added 199 = .ok (.getfield 29, 3) := by decide +kernel
theorem dX8_added_202 : decode cX8_added 202 = .ok (.getfield 175, 3) := by decide +kernel
theorem dX8_added_205 : decode cX8_added 205 = .ok (.iload_n 1, 1) := by decide +kernel
theorem dX8_added_206 : decode cX8_added 206 = .ok (.laload, 1) := by decide +kernel
theorem dX8_added_207 : decode cX8_added 207 = .ok (.aload_n 0, 1) := by decide +kernel
theorem dX8_added_208 : decode cX8_added 208 = .ok (.getfield 29, 3) := by decide +kernel
theorem dX8_added_211 : decode cX8_added 211 = .ok (.getfield 178, 3) := by decide +kernel
theorem dX8_added_214 : decode cX8_added 214 = .ok (.lload 4, 2) := by decide +kernel
theorem dX8_added_216 : decode cX8_added 216 = .ok (.lload 6, 2) := by decide +kernel
theorem dX8_added_218 : decode cX8_added 218 = .ok (.invokestatic 223, 3) := by decide +kernel
theorem dX8_added_221 : decode cX8_added 221 = .ok (.ifCond .ge 35, 3) := by decide +kernel
theorem dX8_added_224 : decode cX8_added 224 = .ok (.iconst 1, 1) := by decide +kernel
theorem dX8_added_225 : decode cX8_added 225 = .ok (.istore_n 3, 1) := by decide +kernel
theorem dX8_added_226 : decode cX8_added 226 = .ok (.aload_n 0, 1) := by decide +kernel
theorem dX8_added_227 : decode cX8_added 227 = .ok (.getfield 29, 3) := by decide +kernel
theorem dX8_added_230 : decode cX8_added 230 = .ok (.getfield 175, 3) := by decide +kernel
theorem dX8_added_233 : decode cX8_added 233 = .ok (.iload_n 1, 1) := by decide +kernel
theorem dX8_added_234 : decode cX8_added 234 = .ok (.laload, 1) := by decide +kernel
theorem dX8_added_235 : decode cX8_added 235 = .ok (.lstore 4, 2) := by decide +kernel
theorem dX8_added_237 : decode cX8_added 237 = .ok (.aload_n 0, 1) := by decide +kernel
theorem dX8_added_238 : decode cX8_added 238 = .ok (.getfield 29, 3) := by decide +kernel
theorem dX8_added_241 : decode cX8_added 241 = .ok (.getfield 178, 3) := by decide +kernel
theorem dX8_added_244 : decode cX8_added 244 = .ok (.lstore 6, 2) := by decide +kernel
theorem dX8_added_246 : decode cX8_added 246 = .ok (.bipush 10, 2) := by decide +kernel
theorem dX8_added_248 : decode cX8_added 248 = .ok (.iload 10, 2) := by decide +kernel
theorem dX8_added_250 : decode cX8_added 250 = .ok (.imul, 1) := by decide +kernel
theorem dX8_added_251 : decode cX8_added 251 = .ok (.iload 11, 2) := by decide +kernel
theorem dX8_added_253 : decode cX8_added 253 = .ok (.iadd, 1) := by decide +kernel
theorem dX8_added_254 : decode cX8_added 254 = .ok (.istore 8, 2) := by decide +kernel
