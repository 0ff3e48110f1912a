theorem dX9_isSign_37 : decode cX9_isSign 37 = .ok (.ireturn, 1) := by decide +kernel
theorem dX9_isFigure_0 : decode cX9_isFigure 0 = .ok (.aload_n 0, 1) := by decide +kernel
theorem dX9_isFigure_1 : decode cX9_isFigure 1 = .ok (.getfield 180, 3) := by decide +kernel
theorem dX9_isFigure_4 : decode cX9_isFigure 4 = .ok (.aload_n 0, 1) := by decide +kernel
theorem dX9_isFigure_5 : decode cX9_isFigure 5 = .ok (.getfield 177, 3) := by decide +kernel
theorem dX9_isFigure_8 : decode cX9_isFigure 8 = .ok (.if_icmp .eq 25, 3) := by decide +kernel
theorem dX9_isFigure_11 : decode cX9_isFigure 11 = .ok (.aload_n 0, 1) := by decide +kernel
theorem dX9_isFigure_12 : decode cX9_isFigure 12 = .ok (.getfield 35, 3) := by decide +kernel
theorem dX9_isFigure_15 : decode cX9_isFigure 15 = .ok (.aload_n 0, 1) := by decide +kernel
theorem dX9_isFigure_16 : decode cX9_isFigure 16 = .ok (.getfield 180, 3) := by decide +kernel
theorem dX9_isFigure_19 : decode cX9_isFigure 19 = .ok (.iaload, 1) := by decide +kernel
theorem dX9_isFigure_20 : decode cX9_isFigure 20 = .ok (.i2l, 1) := by decide +kernel
theorem dX9_isFigure_21 : decode cX9_isFigure 21 = .ok (.ldc2_w 183, 3) := by decide +kernel
theorem dX9_isFigure_24 : decode cX9_isFigure 24 = .ok (.ldc2_w 185, 3) := by decide +kernel
theorem dX9_isFigure_27 : decode cX9_isFigure 27 = .ok (.invokestatic 116, 3) := by decide +kernel
theorem dX9_isFigure_30 : decode cX9_isFigure 30 = .ok (.ifCond .ne 5, 3) := by decide +kernel
theorem dX9_isFigure_33 : decode cX9_isFigure 33 = .ok (.iconst 0, 1) := by decide +kernel
theorem dX9_isFigure_34 : decode cX9_isFigure 34 = .ok (.ireturn, 1) := by decide +kernel
theorem dX9_isFigure_35 : decode cX9_isFigure 35 = .ok (.aload_n 0, 1) := by decide +kernel
theorem dX9_isFigure_36 : decode cX9_isFigure 36 = .ok (.dup, 1) := by decide +kernel
theorem dX9_isFigure_37 : decode cX9_isFigure 37 = .ok (.getfield 180, 3) := by decide +kernel
theorem dX9_isFigure_40 : decode cX9_isFigure 40 = .ok (.iconst 1, 1) := by decide +kernel
theorem dX9_isFigure_41 : decode cX9_isFigure 41 = .ok (.iadd, 1) := by decide +kernel
theorem dX9_isFigure_42 : decode cX9_isFigure 42 = .ok (.putfield 180, 3) := by decide +kernel
theorem dX9_isFigure_45 : decode cX9_isFigure 45 = .ok (.iconst 1, 1) := by decide +kernel
theorem dX9_isFigure_46 : decode cX9_isFigure 46 = .ok (.ireturn, 1) := by decide +kernel
theorem dX9_statement_0 : decode cX9_statement 0 = .ok (.aload_n 0, 1) := by decide +kernel
theorem dX9_statement_1 : decode cX9_statement 1 = .ok (.invokevirtual 187, 3) := by decide +kernel
theorem dX9_statement_4 : decode cX9_statement 4 = .ok (.istore_n 1, 1) := by decide +kernel
theorem dX9_statement_5 : decode cX9_statement 5 = .ok (.iload_n 1, 1) := by decide +kernel
theorem dX9_statement_6 : decode cX9_statement 6 = .ok (.ifCond .ge 5, 3) := by decide +kernel
theorem dX9_statement_9 : decode cX9_statement 9 = .ok (.iload_n 1, 1) := by decide +kernel
theorem dX9_statement_10 : decode cX9_statement 10 = .ok (.ireturn, 1) := by decide +kernel
theorem dX9_statement_11 : decode cX9_statement 11 = .ok (.iconst 0, 1) := by decide +kernel
theorem dX9_statement_12 : decode cX9_statement 12 = .ok (.istore_n 2, 1) := by decide +kernel
theorem dX9_statement_13 : decode cX9_statement 13 = .ok (.iload_n 2, 1) := by decide +kernel
theorem dX9_statement_14 : decode cX9_statement 14 = .ok (.aload_n 0, 1) := by decide +kernel
theorem dX9_statement_15 : decode cX9_statement 15 = .ok (.getfield 45, 3) := by decide +kernel
theorem dX9_statement_18 : decode cX9_statement 18 = .ok (.iload_n 1, 1) := by decide +kernel
theorem dX9_statement_19 : decode cX9_statement 19 = .ok (.iaload, 1) := by decide +kernel
theorem dX9_statement_20 : decode cX9_statement 20 = .ok (.if_icmp .ge 47, 3) := by decide +kernel
theorem dX9_statement_23 : decode cX9_statement 23 = .ok (.aload_n 0, 1) := by decide +kernel
theorem dX9_statement_24 : decode cX9_statement 24 = .ok (.bipush 32, 2) := by decide +kernel
theorem dX9_statement_26 : decode cX9_statement 26 = .ok (.invokevirtual 191, 3) := by decide +kernel
theorem dX9_statement_29 : decode cX9_statement 29 = .ok (.ifCond .eq 10, 3) := by decide +kernel
theorem dX9_statement_32 : decode cX9_statement 32 = .ok (.aload_n 0, 1) := by decide +kernel
theorem dX9_statement_33 : decode cX9_statement 33 = .ok (.invokevirtual 194, 3) := by decide +kernel
theorem dX9_statement_36 : decode cX9_statement 36 = .ok (.ifCond .ne 5, 3) := by decide +kernel
theorem dX9_statement_39 : decode cX9_statement 39 = .ok (.iconst (-1), 1) := by decide +kernel
theorem dX9_statement_40 : decode cX9_statement 40 = .ok (.ireturn, 1) := by decide +kernel
theorem dX9_statement_41 : decode cX9_statement 41 = .ok (.aload_n 0, 1) := by decide +kernel
theorem dX9_statement_42 : decode cX9_statement 42 = .ok (.getfield 48, 3) := by decide +kernel
theorem dX9_statement_45 : decode cX9_statement 45 = .ok (.iload_n 2, 1) := by decide +kernel
theorem dX9_statement_46 : decode cX9_statement 46 = .ok (.aload_n 0, 1) := by decide +kernel
theorem dX9_statement_47 : decode cX9_statement 47 = .ok (.getfield 35, 3) := by decide +kernel
theorem dX9_statement_50 : decode cX9_statement 50 = .ok (.aload_n 0, 1) := by decide +kernel
theorem dX9_statement_51 : decode cX9_statement 51 = .ok (.getfield 180, 3) := by decide +kernel
theorem dX9_statement_54 : decode cX9_statement 54 = .ok (.iconst 1, 1) := by decide +kernel
theorem dX9_statement_55 : decode cX9_statement 55 = .ok (.isub, 1) := by decide +kernel
theorem dX9_statement_56 : decode cX9_statement 56 = .ok (.iaload, 1) := by decide +kernel
theorem dX9_statement_57 : decode cX9_statement 57 = .ok (.bipush 48, 2) := by decide +kernel
theorem dX9_statement_59 : decode cX9_statement 59 = .ok (.isub, 1) := by decide +kernel
theorem dX9_statement_60 : decode cX9_statement 60 = .ok (.iastore, 1) := by decide +kernel
theorem dX9_statement_61 : decode cX9_statement 61 = .ok (.iinc 2 1, 3) := by decide +kernel
theorem dX9_statement_64 : decode cX9_statement 64 = .ok (.goto (-51), 3) := by decide +kernel
theorem dX9_statement_67 : decode cX9_statement 67 = .ok (.aload_n 0, 1) := by decide +kernel
theorem dX9_statement_68 : decode cX9_statement 68 = .ok (.bipush 59, 2) := by decide +kernel
theorem dX9_statement_70 : decode cX9_statement 70 = .ok (.invokevirtual 191, 3) := by decide +kernel
theorem dX9_statement_73 : decode cX9_statement 73 = .ok (.ifCond .eq 7, 3) := by decide +kernel
theorem dX9_statement_76 : decode cX9_statement 76 = .ok (.iload_n 1, 1) := by decide +kernel
theorem dX9_statement_77 : decode cX9_statement 77 = .ok (.goto 4, 3) := by decide +kernel
theorem dX9_statement_80 : decode cX9_statement 80 = .ok (.iconst (-1), 1) := by decide +kernel
theorem dX9_statement_81 : decode cX9_statement 81 = .ok (.ireturn, 1) := by decide +kernel
theorem dX9_notSo_0 : decode cX9_notSo 0 = .ok (.iload_n 1, 1) := by decide +kernel
theorem dX9_notSo_1 : decode cX9_notSo 1 = .ok (.tableswitch 123 0 4 #[35, 64, 87, 87, 104], 35) := by decide +kernel
theorem dX9_notSo_36 : decode cX9_notSo 36 = .ok (.aload_n 0, 1) := by decide +kernel
theorem dX9_notSo_37 : decode cX9_notSo 37 = .ok (.aload_n 0, 1) := by decide +kernel
theorem dX9_notSo_38 : decode cX9_notSo 38 = .ok (.getfield 48, 3) := by decide +kernel
theorem dX9_notSo_41 : decode cX9_notSo 41 = .ok (.iconst 0, 1) := by decide +kernel
theorem dX9_notSo_42 : decode cX9_notSo 42 = .ok (.iaload, 1) := by decide +kernel
theorem dX9_notSo_43 : decode cX9_notSo 43 = .ok (.aload_n 0, 1) := by decide +kernel
theorem dX9_notSo_44 : decode cX9_notSo 44 = .ok (.getfield 48, 3) := by decide +kernel
theorem dX9_notSo_47 : decode cX9_notSo 47 = .ok (.iconst 1, 1) := by decide +kernel
theorem dX9_notSo_48 : decode cX9_notSo 48 = .ok (.iaload, 1) := by decide +kernel
theorem dX9_notSo_49 : decode cX9_notSo 49 = .ok (.aload_n 0, 1) := by decide +kernel
theorem dX9_notSo_50 : decode cX9_notSo 50 = .ok (.getfield 48, 3) := by decide +kernel
theorem dX9_notSo_53 : decode cX9_notSo 53 = .ok (.iconst 2, 1) := by decide +kernel
theorem dX9_notSo_54 : decode cX9_notSo 54 = .ok (.iaload, 1) := by decide +kernel
theorem dX9_notSo_55 : decode cX9_notSo 55 = .ok (.aload_n 0, 1) := by decide +kernel
theorem dX9_notSo_56 : decode cX9_notSo 56 = .ok (.getfield 48, 3) := by decide +kernel
theorem dX9_notSo_59 : decode cX9_notSo 59 = .ok (.iconst 3, 1) := by decide +kernel
theorem dX9_notSo_60 : decode cX9_notSo 60 = .ok (.iaload, 1) := by decide +kernel
theorem dX9_notSo_61 : decode cX9_notSo 61 = .ok (.invokevirtual 156, 3) := by decide +kernel
theorem dX9_notSo_64 : decode cX9_notSo 64 = .ok (.ireturn, 1) := by decide +kernel
theorem dX9_notSo_65 : decode cX9_notSo 65 = .ok (.aload_n 0, 1) := by decide +kernel
theorem dX9_notSo_66 : decode cX9_notSo 66 = .ok (.aload_n 0, 1) := by decide +kernel
theorem dX9_notSo_67 : decode cX9_notSo 67 = .ok (.getfield 48, 3) := by decide +kernel
theorem dX9_notSo_70 : decode cX9_notSo 70 = .ok (.iconst 0, 1) := by decide +kernel
theorem dX9_notSo_71 : decode cX9_notSo 71 = .ok (.iaload, 1) := by decide +kernel
theorem dX9_notSo_72 : decode cX9_notSo 72 = .ok (.aload_n 0, 1) := by decide +kernel
theorem dX9_notSo_73 : decode cX9_notSo 73 = .ok (.getfield 48, 3) := by decide +kernel
theorem dX9_notSo_76 : decode cX9_notSo 76 = .ok (.iconst 1, 1) := by decide +kernel
theorem dX9_notSo_77 : decode cX9_notSo 77 = .ok (.iaload, 1) := by decide +kernel
theorem dX9_notSo_78 : decode cX9_notSo 78 = .ok (.aload_n 0, 1) := by decide +kernel
theorem dX9_notSo_79 : decode cX9_notSo 79 = .ok (.getfield 48, 3) := by decide +kernel
theorem dX9_notSo_82 : decode cX9_notSo 82 = .ok (.iconst 2, 1) := by decide +kernel
theorem dX9_notSo_83 : decode cX9_notSo 83 = .ok (.iaload, 1) := by decide +kernel
theorem dX9_notSo_84 : decode cX9_notSo 84 = .ok (.invokevirtual 164, 3) := by decide +kernel
theorem dX9_notSo_87 : decode cX9_notSo 87 = .ok (.ireturn, 1) := by decide +kernel
theorem dX9_notSo_88 : decode cX9_notSo 88 = .ok (.aload_n 0, 1) := by decide +kernel
theorem dX9_notSo_89 : decode cX9_notSo 89 = .ok (.aload_n 0, 1) := by decide +kernel
theorem dX9_notSo_90 : decode cX9_notSo 90 = .ok (.getfield 48, 3) := by decide +kernel
theorem dX9_notSo_93 : decode cX9_notSo 93 = .ok (.iconst 0, 1) := by decide +kernel
theorem dX9_notSo_94 : decode cX9_notSo 94 = .ok (.iaload, 1) := by decide +kernel
theorem dX9_notSo_95 : decode cX9_notSo 95 = .ok (.aload_n 0, 1) := by decide +kernel
theorem dX9_notSo_96 : decode cX9_notSo 96 = .ok (.getfield 48, 3) := by decide +kernel
theorem dX9_notSo_99 : decode cX9_notSo 99 = .ok (.iconst 1, 1) := by decide +kernel
theorem dX9_notSo_100 : decode cX9_notSo 100 = .ok (.iaload, 1) := by decide +kernel
theorem dX9_notSo_101 : decode cX9_notSo 101 = .ok (.invokevirtual 167, 3) := by decide +kernel
theorem dX9_notSo_104 : decode cX9_notSo 104 = .ok (.ireturn, 1) := by decide +kernel
theorem dX9_notSo_105 : decode cX9_notSo 105 = .ok (.aload_n 0, 1) := by decide +kernel
theorem dX9_notSo_106 : decode cX9_notSo 106 = .ok (.aload_n 0, 1) := by decide +kernel
theorem dX9_notSo_107 : decode cX9_notSo 107 = .ok (.getfield 48, 3) := by decide +kernel
theorem dX9_notSo_110 : decode cX9_notSo 110 = .ok (.iconst 0, 1) := by decide +kernel
theorem dX9_notSo_111 : decode cX9_notSo 111 = .ok (.iaload, 1) := by decide +kernel
theorem dX9_notSo_112 : decode cX9_notSo 112 = .ok (.invokevirtual 145, 3) := by decide +kernel
theorem dX9_notSo_115 : decode cX9_notSo 115 = .ok (.ifCond .eq 7, 3) := by decide +kernel
theorem dX9_notSo_118 : decode cX9_notSo 118 = .ok (.iconst 0, 1) := by decide +kernel
theorem dX9_notSo_119 : decode cX9_notSo 119 = .ok (.goto 4, 3) := by decide +kernel
theorem dX9_notSo_122 : decode cX9_notSo 122 = .ok (.iconst (-1), 1) := by decide +kernel
theorem dX9_notSo_123 : decode cX9_notSo 123 = .ok (.ireturn, 1) := by decide +kernel
theorem dX9_notSo_124 : decode cX9_notSo 124 = .ok (.aload_n 0, 1) := by decide +kernel
theorem dX9_notSo_125 : decode cX9_notSo 125 = .ok (.aload_n 0, 1) := by decide +kernel
theorem dX9_notSo_126 : decode cX9_notSo 126 = .ok (.getfield 48, 3) := by decide +kernel
theorem dX9_notSo_129 : decode cX9_notSo 129 = .ok (.iconst 0, 1) := by decide +kernel
theorem dX9_notSo_130 : decode cX9_notSo 130 = .ok (.iaload, 1) := by decide +kernel
theorem dX9_notSo_131 : decode cX9_notSo 131 = .ok (.invokevirtual 150, 3) := by decide +kernel
theorem dX9_notSo_134 : decode cX9_notSo 134 = .ok (.ireturn, 1) := by decide +kernel
theorem dX9_does_0 : decode cX9_does 0 = .ok (.iload_n 1, 1) := by decide +kernel
theorem dX9_does_1 : decode cX9_does 1 = .ok (.tableswitch 156 0 4 #[35, 66, 103, 123, 143], 35) := by decide +kernel
theorem dX9_does_36 : decode cX9_does 36 = .ok (.aload_n 0, 1) := by decide +kernel
theorem dX9_does_37 : decode cX9_does 37 = .ok (.aload_n 0, 1) := by decide +kernel
theorem dX9_does_38 : decode cX9_does 38 = .ok (.getfield 48, 3) := by decide +kernel
theorem dX9_does_41 : decode cX9_does 41 = .ok (.iconst 0, 1) := by decide +kernel
theorem dX9_does_42 : decode cX9_does 42 = .ok (.iaload, 1) := by decide +kernel
theorem dX9_does_43 : decode cX9_does 43 = .ok (.aload_n 0, 1) := by decide +kernel
theorem dX9_does_44 : decode cX9_does 44 = .ok (.getfield 48, 3) := by decide +kernel
theorem dX9_does_47 : decode cX9_does 47 = .ok (.iconst 1, 1) := by decide +kernel
theorem dX9_does_48 : decode cX9_does 48 = .ok (.iaload, 1) := by decide +kernel
theorem dX9_does_49 : decode cX9_does 49 = .ok (.aload_n 0, 1) := by decide +kernel
theorem dX9_does_50 : decode cX9_does 50 = .ok (.getfield 48, 3) := by decide +kernel
theorem dX9_does_53 : decode cX9_does 53 = .ok (.iconst 2, 1) := by decide +kernel
theorem dX9_does_54 : decode cX9_does 54 = .ok (.iaload, 1) := by decide +kernel
theorem dX9_does_55 : decode cX9_does 55 = .ok (.aload_n 0, 1) := by decide +kernel
theorem dX9_does_56 : decode cX9_does 56 = .ok (.getfield 48, 3) := by decide +kernel
theorem dX9_does_59 : decode cX9_does 59 = .ok (.iconst 3, 1) := by decide +kernel
theorem dX9_does_60 : decode cX9_does 60 = .ok (.iaload, 1) := by decide +kernel
theorem dX9_does_61 : decode cX9_does 61 = .ok (.invokevirtual 160, 3) := by decide +kernel
theorem dX9_does_64 : decode cX9_does 64 = .ok (.goto 103, 3) := by decide +kernel
theorem dX9_does_67 : decode cX9_does 67 = .ok (.aload_n 0, 1) := by decide +kernel
theorem dX9_does_68 : decode cX9_does 68 = .ok (.getfield 20, 3) := by decide +kernel
theorem dX9_does_71 : decode cX9_does 71 = .ok (.aload_n 0, 1) := by decide +kernel
theorem dX9_does_72 : decode cX9_does 72 = .ok (.getfield 48, 3) := by decide +kernel
theorem dX9_does_75 : decode cX9_does 75 = .ok (.iconst 0, 1) := by decide +kernel
theorem dX9_does_76 : decode cX9_does 76 = .ok (.iaload, 1) := by decide +kernel
theorem dX9_does_77 : decode cX9_does 77 = .ok (.aload_n 0, 1) := by decide +kernel
theorem dX9_does_78 : decode cX9_does 78 = .ok (.getfield 48, 3) := by decide +kernel
theorem dX9_does_81 : decode cX9_does 81 = .ok (.iconst 1, 1) := by decide +kernel
theorem dX9_does_82 : decode cX9_does 82 = .ok (.iaload, 1) := by decide +kernel
theorem dX9_does_83 : decode cX9_does 83 = .ok (.iastore, 1) := by decide +kernel
theorem dX9_does_84 : decode cX9_does 84 = .ok (.aload_n 0, 1) := by decide +kernel
theorem dX9_does_85 : decode cX9_does 85 = .ok (.getfield 23, 3) := by decide +kernel
theorem dX9_does_88 : decode cX9_does 88 = .ok (.aload_n 0, 1) := by decide +kernel
theorem dX9_does_89 : decode cX9_does 89 = .ok (.getfield 48, 3) := by decide +kernel
theorem dX9_does_92 : decode cX9_does 92 = .ok (.iconst 0, 1) := by decide +kernel
theorem dX9_does_93 : decode cX9_does 93 = .ok (.iaload, 1) := by decide +kernel
theorem dX9_does_94 : decode cX9_does 94 = .ok (.aload_n 0, 1) := by decide +kernel
theorem dX9_does_95 : decode cX9_does 95 = .ok (.getfield 48, 3) := by decide +kernel
theorem dX9_does_98 : decode cX9_does 98 = .ok (.iconst 2, 1) := by decide +kernel
theorem dX9_does_99 : decode cX9_does 99 = .ok (.iaload, 1) := by decide +kernel
theorem dX9_does_100 : decode cX9_does 100 = .ok (.iastore, 1) := by decide +kernel
theorem dX9_does_101 : decode cX9_does 101 = .ok (.goto 66, 3) := by decide +kernel
theorem dX9_does_104 : decode cX9_does 104 = .ok (.aload_n 0, 1) := by decide +kernel
theorem dX9_does_105 : decode cX9_does 105 = .ok (.getfield 26, 3) := by decide +kernel
theorem dX9_does_108 : decode cX9_does 108 = .ok (.aload_n 0, 1) := by decide +kernel
theorem dX9_does_109 : decode cX9_does 109 = .ok (.getfield 48, 3) := by decide +kernel
theorem dX9_does_112 : decode cX9_does 112 = .ok (.iconst 0, 1) := by decide +kernel
theorem dX9_does_113 : decode cX9_does 113 = .ok (.iaload, 1) := by decide +kernel
theorem dX9_does_114 : decode cX9_does 114 = .ok (.aload_n 0, 1) := by decide +kernel
theorem dX9_does_115 : decode cX9_does 115 = .ok (.getfield 48, 3) := by decide +kernel
theorem dX9_does_118 : decode cX9_does 118 = .ok (.iconst 1, 1) := by decide +kernel
theorem dX9_does_119 : decode cX9_does 119 = .ok (.iaload, 1) := by decide +kernel
theorem dX9_does_120 : decode cX9_does 120 = .ok (.iastore, 1) := by decide +kernel
theorem dX9_does_121 : decode cX9_does 121 = .ok (.goto 46, 3) := by decide +kernel
theorem dX9_does_124 : decode cX9_does 124 = .ok (.aload_n 0, 1) := by decide +kernel
theorem dX9_does_125 : decode cX9_does 125 = .ok (.getfield 29, 3) := by decide +kernel
theorem dX9_does_128 : decode cX9_does 128 = .ok (.aload_n 0, 1) := by decide +kernel
theorem dX9_does_129 : decode cX9_does 129 = .ok (.getfield 48, 3) := by decide +kernel
theorem dX9_does_132 : decode cX9_does 132 = .ok (.iconst 0, 1) := by decide +kernel
theorem dX9_does_133 : decode cX9_does 133 = .ok (.iaload, 1) := by decide +kernel
theorem dX9_does_134 : decode cX9_does 134 = .ok (.aload_n 0, 1) := by decide +kernel
theorem dX9_does_135 : decode cX9_does 135 = .ok (.getfield 48, 3) := by decide +kernel
theorem dX9_does_138 : decode cX9_does 138 = .ok (.iconst 1, 1) := by decide +kernel
theorem dX9_does_139 : decode cX9_does 139 = .ok (.iaload, 1) := by decide +kernel
theorem dX9_does_140 : decode cX9_does 140 = .ok (.iastore, 1) := by decide +kernel
theorem dX9_does_141 : decode cX9_does 141 = .ok (.goto 26, 3) := by decide +kernel
theorem dX9_does_144 : decode cX9_does 144 = .ok (.aload_n 0, 1) := by decide +kernel
theorem dX9_does_145 : decode cX9_does 145 = .ok (.aload_n 0, 1) := by decide +kernel
theorem dX9_does_146 : decode cX9_does 146 = .ok (.getfield 48, 3) := by decide +kernel
theorem dX9_does_149 : decode cX9_does 149 = .ok (.iconst 0, 1) := by decide +kernel
theorem dX9_does_150 : decode cX9_does 150 = .ok (.iaload, 1) := by decide +kernel
theorem dX9_does_151 : decode cX9_does 151 = .ok (.invokevirtual 137, 3) := by decide +kernel
theorem dX9_does_154 : decode cX9_does 154 = .ok (.goto 13, 3) := by decide +kernel
theorem dX9_does_157 : decode cX9_does 157 = .ok (.aload_n 0, 1) := by decide +kernel
theorem dX9_does_158 : decode cX9_does 158 = .ok (.aload_n 0, 1) := by decide +kernel
theorem dX9_does_159 : decode cX9_does 159 = .ok (.getfield 48, 3) := by decide +kernel
theorem dX9_does_162 : decode cX9_does 162 = .ok (.iconst 0, 1) := by decide +kernel
theorem dX9_does_163 : decode cX9_does 163 = .ok (.iaload, 1) := by decide +kernel
theorem dX9_does_164 : decode cX9_does 164 = .ok (.invokevirtual 153, 3) := by decide +kernel
theorem dX9_does_167 : decode cX9_does 167 = .ok (.return_, 1) := by decide +kernel
theorem dX9_keeps_0 : decode cX9_keeps 0 = .ok (.aload_n 1, 1) := by decide +kernel
theorem dX9_keeps_1 : decode cX9_keeps 1 = .ok (.iconst 0, 1) := by decide +kernel
theorem dX9_keeps_2 : decode cX9_keeps 2 = .ok (.aload_n 0, 1) := by decide +kernel
theorem dX9_keeps_3 : decode cX9_keeps 3 = .ok (.getfield 7, 3) := by decide +kernel
theorem dX9_keeps_6 : decode cX9_keeps 6 = .ok (.iastore, 1) := by decide +kernel
theorem dX9_keeps_7 : decode cX9_keeps 7 = .ok (.aload_n 1, 1) := by decide +kernel
theorem dX9_keeps_8 : decode cX9_keeps 8 = .ok (.iconst 1, 1) := by decide +kernel
theorem dX9_keeps_9 : decode cX9_keeps 9 = .ok (.aload_n 0, 1) := by decide +kernel
theorem dX9_keeps_10 : decode cX9_keeps 10 = .ok (.getfield 120, 3) := by decide +kernel
theorem dX9_keeps_13 : decode cX9_keeps 13 = .ok (.iastore, 1) := by decide +kernel
theorem dX9_keeps_14 : decode cX9_keeps 14 = .ok (.iconst 0, 1) := by decide +kernel
theorem dX9_keeps_15 : decode cX9_keeps 15 = .ok (.istore_n 2, 1) := by decide +kernel
theorem dX9_keeps_16 : decode cX9_keeps 16 = .ok (.iload_n 2, 1) := by decide +kernel
theorem dX9_keeps_17 : decode cX9_keeps 17 = .ok (.bipush 10, 2) := by decide +kernel
theorem dX9_keeps_19 : decode cX9_keeps 19 = .ok (.if_icmp .ge 95, 3) := by decide +kernel
theorem dX9_keeps_22 : decode cX9_keeps 22 = .ok (.aload_n 1, 1) := by decide +kernel
theorem dX9_keeps_23 : decode cX9_keeps 23 = .ok (.iconst 2, 1) := by decide +kernel
theorem dX9_keeps_24 : decode cX9_keeps 24 = .ok (.bipush 6, 2) := by decide +kernel
theorem dX9_keeps_26 : decode cX9_keeps 26 = .ok (.iload_n 2, 1) := by decide +kernel
theorem dX9_keeps_27 : decode cX9_keeps 27 = .ok (.imul, 1) := by decide +kernel
theorem dX9_keeps_28 : decode cX9_keeps 28 = .ok (.iadd, 1) := by decide +kernel
theorem dX9_keeps_29 : decode cX9_keeps 29 = .ok (.aload_n 0, 1) := by decide +kernel
theorem dX9_keeps_30 : decode cX9_keeps 30 = .ok (.getfield 13, 3) := by decide +kernel
theorem dX9_keeps_33 : decode cX9_keeps 33 = .ok (.iload_n 2, 1) := by decide +kernel
theorem dX9_keeps_34 : decode cX9_keeps 34 = .ok (.iaload, 1) := by decide +kernel
theorem dX9_keeps_35 : decode cX9_keeps 35 = .ok (.iastore, 1) := by decide +kernel
theorem dX9_keeps_36 : decode cX9_keeps 36 = .ok (.aload_n 1, 1) := by decide +kernel
theorem dX9_keeps_37 : decode cX9_keeps 37 = .ok (.iconst 3, 1) := by decide +kernel
theorem dX9_keeps_38 : decode cX9_keeps 38 = .ok (.bipush 6, 2) := by decide +kernel
theorem dX9_keeps_40 : decode cX9_keeps 40 = .ok (.iload_n 2, 1) := by decide +kernel
theorem dX9_keeps_41 : decode cX9_keeps 41 = .ok (.imul, 1) := by decide +kernel
theorem dX9_keeps_42 : decode cX9_keeps 42 = .ok (.iadd, 1) := by decide +kernel
theorem dX9_keeps_43 : decode cX9_keeps 43 = .ok (.aload_n 0, 1) := by decide +kernel
theorem dX9_keeps_44 : decode cX9_keeps 44 = .ok (.getfield 17, 3) := by decide +kernel
theorem dX9_keeps_47 : decode cX9_keeps 47 = .ok (.iload_n 2, 1) := by decide +kernel
theorem dX9_keeps_48 : decode cX9_keeps 48 = .ok (.iaload, 1) := by decide +kernel
theorem dX9_keeps_49 : decode cX9_keeps 49 = .ok (.iastore, 1) := by decide +kernel
theorem dX9_keeps_50 : decode cX9_keeps 50 = .ok (.aload_n 1, 1) := by decide +kernel
theorem dX9_keeps_51 : decode cX9_keeps 51 = .ok (.iconst 4, 1) := by decide +kernel
theorem dX9_keeps_52 : decode cX9_keeps 52 = .ok (.bipush 6, 2) := by decide +kernel
theorem dX9_keeps_54 : decode cX9_keeps 54 = .ok (.iload_n 2, 1) := by decide +kernel
theorem dX9_keeps_55 : decode cX9_keeps 55 = .ok (.imul, 1) := by decide +kernel
theorem dX9_keeps_56 : decode cX9_keeps 56 = .ok (.iadd, 1) := by decide +kernel
theorem dX9_keeps_57 : decode cX9_keeps 57 = .ok (.aload_n 0, 1) := by decide +kernel
theorem dX9_keeps_58 : decode cX9_keeps 58 = .ok (.getfield 20, 3) := by decide +kernel
theorem dX9_keeps_61 : decode cX9_keeps 61 = .ok (.iload_n 2, 1) := by decide +kernel
theorem dX9_keeps_62 : decode cX9_keeps 62 = .ok (.iaload, 1) := by decide +kernel
theorem dX9_keeps_63 : decode cX9_keeps 63 = .ok (.iastore, 1) := by decide +kernel
theorem dX9_keeps_64 : decode cX9_keeps 64 = .ok (.aload_n 1, 1) := by decide +kernel
theorem dX9_keeps_65 : decode cX9_keeps 65 = .ok (.iconst 5, 1) := by decide +kernel
theorem dX9_keeps_66 : decode cX9_keeps 66 = .ok (.bipush 6, 2) := by decide +kernel
theorem dX9_keeps_68 : decode cX9_keeps 68 = .ok (.iload_n 2, 1) := by decide +kernel
theorem dX9_keeps_69 : decode cX9_keeps 69 = .ok (.imul, 1) := by decide +kernel
theorem dX9_keeps_70 : decode cX9_keeps 70 = .ok (.iadd, 1) := by decide +kernel
theorem dX9_keeps_71 : decode cX9_keeps 71 = .ok (.aload_n 0, 1) := by decide +kernel
theorem dX9_keeps_72 : decode cX9_keeps 72 = .ok (.getfield 23, 3) := by decide +kernel
theorem dX9_keeps_75 : decode cX9_keeps 75 = .ok (.iload_n 2, 1) := by decide +kernel
theorem dX9_keeps_76 : decode cX9_keeps 76 = .ok (.iaload, 1) := by decide +kernel
theorem dX9_keeps_77 : decode cX9_keeps 77 = .ok (.iastore, 1) := by decide +kernel
theorem dX9_keeps_78 : decode cX9_keeps 78 = .ok (.aload_n 1, 1) := by decide +kernel
theorem dX9_keeps_79 : decode cX9_keeps 79 = .ok (.bipush 6, 2) := by decide +kernel
theorem dX9_keeps_81 : decode cX9_keeps 81 = .ok (.bipush 6, 2) := by decide +kernel
theorem dX9_keeps_83 : decode cX9_keeps 83 = .ok (.iload_n 2, 1) := by decide +kernel
theorem dX9_keeps_84 : decode cX9_keeps 84 = .ok (.imul, 1) := by decide +kernel
theorem dX9_keeps_85 : decode cX9_keeps 85 = .ok (.iadd, 1) := by decide +kernel
theorem dX9_keeps_86 : decode cX9_keeps 86 = .ok (.aload_n 0, 1) := by decide +kernel
theorem dX9_keeps_87 : decode cX9_keeps 87 = .ok (.getfield 26, 3) := by decide +kernel
theorem dX9_keeps_90 : decode cX9_keeps 90 = .ok (.iload_n 2, 1) := by decide +kernel
theorem dX9_keeps_91 : decode cX9_keeps 91 = .ok (.iaload, 1) := by decide +kernel
theorem dX9_keeps_92 : decode cX9_keeps 92 = .ok (.iastore, 1) := by decide +kernel
theorem dX9_keeps_93 : decode cX9_keeps 93 = .ok (.aload_n 1, 1) := by decide +kernel
theorem dX9_keeps_94 : decode cX9_keeps 94 = .ok (.bipush 7, 2) := by decide +kernel
theorem dX9_keeps_96 : decode cX9_keeps 96 = .ok (.bipush 6, 2) := by decide +kernel
theorem dX9_keeps_98 : decode cX9_keeps 98 = .ok (.iload_n 2, 1) := by decide +kernel
theorem dX9_keeps_99 : decode cX9_keeps 99 = .ok (.imul, 1) := by decide +kernel
theorem dX9_keeps_100 : decode cX9_keeps 100 = .ok (.iadd, 1) := by decide +kernel
theorem dX9_keeps_101 : decode cX9_keeps 101 = .ok (.aload_n 0, 1) := by decide +kernel
theorem dX9_keeps_102 : decode cX9_keeps 102 = .ok (.getfield 29, 3) := by decide +kernel
theorem dX9_keeps_105 : decode cX9_keeps 105 = .ok (.iload_n 2, 1) := by decide +kernel
theorem dX9_keeps_106 : decode cX9_keeps 106 = .ok (.iaload, 1) := by decide +kernel
theorem dX9_keeps_107 : decode cX9_keeps 107 = .ok (.iastore, 1) := by decide +kernel
theorem dX9_keeps_108 : decode cX9_keeps 108 = .ok (.iinc 2 1, 3) := by decide +kernel
theorem dX9_keeps_111 : decode cX9_keeps 111 = .ok (.goto (-95), 3) := by decide +kernel
theorem dX9_keeps_114 : decode cX9_keeps 114 = .ok (.return_, 1) := by decide +kernel
theorem dX9_brings_0 : decode cX9_brings 0 = .ok (.aload_n 0, 1) := by decide +kernel
theorem dX9_brings_1 : decode cX9_brings 1 = .ok (.aload_n 1, 1) := by decide +kernel
theorem dX9_brings_2 : decode cX9_brings 2 = .ok (.iconst 0, 1) := by decide +kernel
theorem dX9_brings_3 : decode cX9_brings 3 = .ok (.iaload, 1) := by decide +kernel
theorem dX9_brings_4 : decode cX9_brings 4 = .ok (.putfield 7, 3) := by decide +kernel
theorem dX9_brings_7 : decode cX9_brings 7 = .ok (.aload_n 0, 1) := by decide +kernel
theorem dX9_brings_8 : decode cX9_brings 8 = .ok (.aload_n 1, 1) := by decide +kernel
theorem dX9_brings_9 : decode cX9_brings 9 = .ok (.iconst 1, 1) := by decide +kernel
theorem dX9_brings_10 : decode cX9_brings 10 = .ok (.iaload, 1) := by decide +kernel
theorem dX9_brings_11 : decode cX9_brings 11 = .ok (.putfield 120, 3) := by decide +kernel
theorem dX9_brings_14 : decode cX9_brings 14 = .ok (.iconst 0, 1) := by decide +kernel
theorem dX9_brings_15 : decode cX9_brings 15 = .ok (.istore_n 2, 1) := by decide +kernel
theorem dX9_brings_16 : decode cX9_brings 16 = .ok (.iload_n 2, 1) := by decide +kernel
theorem dX9_brings_17 : decode cX9_brings 17 = .ok (.bipush 10, 2) := by decide +kernel
theorem dX9_brings_19 : decode cX9_brings 19 = .ok (.if_icmp .ge 95, 3) := by decide +kernel
theorem dX9_brings_22 : decode cX9_brings 22 = .ok (.aload_n 0, 1) := by decide +kernel
theorem dX9_brings_23 : decode cX9_brings 23 = .ok (.getfield 13, 3) := by decide +kernel
theorem dX9_brings_26 : decode cX9_brings 26 = .ok (.iload_n 2, 1) := by decide +kernel
theorem dX9_brings_27 : decode cX9_brings 27 = .ok (.aload_n 1, 1) := by decide +kernel
theorem dX9_brings_28 : decode cX9_brings 28 = .ok (.iconst 2, 1) := by decide +kernel
theorem dX9_brings_29 : decode cX9_brings 29 = .ok (.bipush 6, 2) := by decide +kernel
theorem dX9_brings_31 : decode cX9_brings 31 = .ok (.iload_n 2, 1) := by decide +kernel
theorem dX9_brings_32 : decode cX9_brings 32 = .ok (.imul, 1) := by decide +kernel
theorem dX9_brings_33 : decode cX9_brings 33 = .ok (.iadd, 1) := by decide +kernel
theorem dX9_brings_34 : decode cX9_brings 34 = .ok (.iaload, 1) := by decide +kernel
theorem dX9_brings_35 : decode cX9_brings 35 = .ok (.iastore, 1) := by decide +kernel
theorem dX9_brings_36 : decode cX9_brings 36 = .ok (.aload_n 0, 1) := by decide +kernel
theorem dX9_brings_37 : decode cX9_brings 37 = .ok (.getfield 17, 3) := by decide +kernel
theorem dX9_brings_40 : decode cX9_brings 40 = .ok (.iload_n 2, 1) := by decide +kernel
theorem dX9_brings_41 : decode cX9_brings 41 = .ok (.aload_n 1, 1) := by decide +kernel
theorem dX9_brings_42 : decode cX9_brings 42 = .ok (.iconst 3, 1) := by decide +kernel
theorem dX9_brings_43 : decode cX9_brings 43 = .ok (.bipush 6, 2) := by decide +kernel
theorem dX9_brings_45 : decode cX9_brings 45 = .ok (.iload_n 2, 1) := by decide +kernel
theorem dX9_brings_46 : decode cX9_brings 46 = .ok (.imul, 1) := by decide +kernel
theorem dX9_brings_47 : decode cX9_brings 47 = .ok (.iadd, 1) := by decide +kernel
theorem dX9_brings_48 : decode cX9_brings 48 = .ok (.iaload, 1) := by decide +kernel
theorem dX9_brings_49 : decode cX9_brings 49 = .ok (.iastore, 1) := by decide +kernel
theorem dX9_brings_50 : decode cX9_brings 50 = .ok (.aload_n 0, 1) := by decide +kernel
theorem dX9_brings_51 : decode cX9_brings 51 = .ok (.getfield 20, 3) := by decide +kernel
theorem dX9_brings_54 : decode cX9_brings 54 = .ok (.iload_n 2, 1) := by decide +kernel
theorem dX9_brings_55 : decode cX9_brings 55 = .ok (.aload_n 1, 1) := by decide +kernel
theorem dX9_brings_56 : decode cX9_brings 56 = .ok (.iconst 4, 1) := by decide +kernel
theorem dX9_brings_57 : decode cX9_brings 57 = .ok (.bipush 6, 2) := by decide +kernel
theorem dX9_brings_59 : decode cX9_brings 59 = .ok (.iload_n 2, 1) := by decide +kernel
theorem dX9_brings_60 : decode cX9_brings 60 = .ok (.imul, 1) := by decide +kernel
theorem dX9_brings_61 : decode cX9_brings 61 = .ok (.iadd, 1) := by decide +kernel
theorem dX9_brings_62 : decode cX9_brings 62 = .ok (.iaload, 1) := by decide +kernel
theorem dX9_brings_63 : decode cX9_brings 63 = .ok (.iastore, 1) := by decide +kernel
theorem dX9_brings_64 : decode cX9_brings 64 = .ok (.aload_n 0, 1) := by decide +kernel
theorem dX9_brings_65 : decode cX9_brings 65 = .ok (.getfield 23, 3) := by decide +kernel
theorem dX9_brings_68 : decode cX9_brings 68 = .ok (.iload_n 2, 1) := by decide +kernel
theorem dX9_brings_69 : decode cX9_brings 69 = .ok (.aload_n 1, 1) := by decide +kernel
theorem dX9_brings_70 : decode cX9_brings 70 = .ok (.iconst 5, 1) := by decide +kernel
theorem dX9_brings_71 : decode cX9_brings 71 = .ok (.bipush 6, 2) := by decide +kernel
theorem dX9_brings_73 : decode cX9_brings 73 = .ok (.iload_n 2, 1) := by decide +kernel
theorem dX9_brings_74 : decode cX9_brings 74 = .ok (.imul, 1) := by decide +kernel
theorem dX9_brings_75 : decode cX9_brings 75 = .ok (.iadd, 1) := by decide +kernel
theorem dX9_brings_76 : decode cX9_brings 76 = .ok (.iaload, 1) := by decide +kernel
theorem dX9_brings_77 : decode cX9_brings 77 = .ok (.iastore, 1) := by decide +kernel
theorem dX9_brings_78 : decode cX9_brings 78 = .ok (.aload_n 0, 1) := by decide +kernel
theorem dX9_brings_79 : decode cX9_brings 79 = .ok (.getfield 26, 3) := by decide +kernel
theorem dX9_brings_82 : decode cX9_brings 82 = .ok (.iload_n 2, 1) := by decide +kernel
theorem dX9_brings_83 : decode cX9_brings 83 = .ok (.aload_n 1, 1) := by decide +kernel
theorem dX9_brings_84 : decode cX9_brings 84 = .ok (.bipush 6, 2) := by decide +kernel
theorem dX9_brings_86 : decode cX9_brings 86 = .ok (.bipush 6, 2) := by decide +kernel
theorem dX9_brings_88 : decode cX9_brings 88 = .ok (.iload_n 2, 1) := by decide +kernel
theorem dX9_brings_89 : decode cX9_brings 89 = .ok (.imul, 1) := by decide +kernel
theorem dX9_brings_90 : decode cX9_brings 90 = .ok (.iadd, 1) := by decide +kernel
theorem dX9_brings_91 : decode cX9_brings 91 = .ok (.iaload, 1) := by decide +kernel
theorem dX9_brings_92 : decode cX9_brings 92 = .ok (.iastore, 1) := by decide +kernel
theorem dX9_brings_93 : decode cX9_brings 93 = .ok (.aload_n 0, 1) := by decide +kernel
theorem dX9_brings_94 : decode cX9_brings 94 = .ok (.getfield 29, 3) := by decide +kernel
theorem dX9_brings_97 : decode cX9_brings 97 = .ok (.iload_n 2, 1) := by decide +kernel
theorem dX9_brings_98 : decode cX9_brings 98 = .ok (.aload_n 1, 1) := by decide +kernel
theorem dX9_brings_99 : decode cX9_brings 99 = .ok (.bipush 7, 2) := by decide +kernel
theorem dX9_brings_101 : decode cX9_brings 101 = .ok (.bipush 6, 2) := by decide +kernel
theorem dX9_brings_103 : decode cX9_brings 103 = .ok (.iload_n 2, 1) := by decide +kernel
theorem dX9_brings_104 : decode cX9_brings 104 = .ok (.imul, 1) := by decide +kernel
theorem dX9_brings_105 : decode cX9_brings 105 = .ok (.iadd, 1) := by decide +kernel
theorem dX9_brings_106 : decode cX9_brings 106 = .ok (.iaload, 1) := by decide +kernel
theorem dX9_brings_107 : decode cX9_brings 107 = .ok (.iastore, 1) := by decide +kernel
theorem dX9_brings_108 : decode cX9_brings 108 = .ok (.iinc 2 1, 3) := by decide +kernel
theorem dX9_brings_111 : decode cX9_brings 111 = .ok (.goto (-95), 3) := by decide +kernel
theorem dX9_brings_114 : decode cX9_brings 114 = .ok (.return_, 1) := by decide +kernel
theorem dX9_grammar_0 : decode cX9_grammar 0 = .ok (.aload_n 0, 1) := by decide +kernel
theorem dX9_grammar_1 : decode cX9_grammar 1 = .ok (.iconst 0, 1) := by decide +kernel
theorem dX9_grammar_2 : decode cX9_grammar 2 = .ok (.putfield 180, 3) := by decide +kernel
theorem dX9_grammar_5 : decode cX9_grammar 5 = .ok (.iconst 0, 1) := by decide +kernel
theorem dX9_grammar_6 : decode cX9_grammar 6 = .ok (.istore_n 1, 1) := by decide +kernel
theorem dX9_grammar_7 : decode cX9_grammar 7 = .ok (.iload_n 1, 1) := by decide +kernel
theorem dX9_grammar_8 : decode cX9_grammar 8 = .ok (.ifCond .eq 14, 3) := by decide +kernel
theorem dX9_grammar_11 : decode cX9_grammar 11 = .ok (.aload_n 0, 1) := by decide +kernel
theorem dX9_grammar_12 : decode cX9_grammar 12 = .ok (.getfield 180, 3) := by decide +kernel
theorem dX9_grammar_15 : decode cX9_grammar 15 = .ok (.aload_n 0, 1) := by decide +kernel
theorem dX9_grammar_16 : decode cX9_grammar 16 = .ok (.getfield 177, 3) := by decide +kernel
theorem dX9_grammar_19 : decode cX9_grammar 19 = .ok (.if_icmp .ge 25, 3) := by decide +kernel
theorem dX9_grammar_22 : decode cX9_grammar 22 = .ok (.aload_n 0, 1) := by decide +kernel
theorem dX9_grammar_23 : decode cX9_grammar 23 = .ok (.invokevirtual 198, 3) := by decide +kernel
theorem dX9_grammar_26 : decode cX9_grammar 26 = .ok (.ifCond .ge 12, 3) := by decide +kernel
theorem dX9_grammar_29 : decode cX9_grammar 29 = .ok (.sipush (-1000), 3) := by decide +kernel
theorem dX9_grammar_32 : decode cX9_grammar 32 = .ok (.aload_n 0, 1) := by decide +kernel
theorem dX9_grammar_33 : decode cX9_grammar 33 = .ok (.getfield 180, 3) := by decide +kernel
theorem dX9_grammar_36 : decode cX9_grammar 36 = .ok (.isub, 1) := by decide +kernel
theorem dX9_grammar_37 : decode cX9_grammar 37 = .ok (.ireturn, 1) := by decide +kernel
theorem dX9_grammar_38 : decode cX9_grammar 38 = .ok (.iinc 1 1, 3) := by decide +kernel
theorem dX9_grammar_41 : decode cX9_grammar 41 = .ok (.goto (-34), 3) := by decide +kernel
theorem dX9_grammar_44 : decode cX9_grammar 44 = .ok (.iload_n 1, 1) := by decide +kernel
theorem dX9_grammar_45 : decode cX9_grammar 45 = .ok (.ireturn, 1) := by decide +kernel
theorem dX9_allDone_0 : decode cX9_allDone 0 = .ok (.aload_n 0, 1) := by decide +kernel
theorem dX9_allDone_1 : decode cX9_allDone 1 = .ok (.iconst 0, 1) := by decide +kernel
theorem dX9_allDone_2 : decode cX9_allDone 2 = .ok (.putfield 180, 3) := by decide +kernel
theorem dX9_allDone_5 : decode cX9_allDone 5 = .ok (.aload_n 0, 1) := by decide +kernel
theorem dX9_allDone_6 : decode cX9_allDone 6 = .ok (.getfield 180, 3) := by decide +kernel
theorem dX9_allDone_9 : decode cX9_allDone 9 = .ok (.aload_n 0, 1) := by decide +kernel
theorem dX9_allDone_10 : decode cX9_allDone 10 = .ok (.getfield 177, 3) := by decide +kernel
theorem dX9_allDone_13 : decode cX9_allDone 13 = .ok (.if_icmp .ge 35, 3) := by decide +kernel
theorem dX9_allDone_16 : decode cX9_allDone 16 = .ok (.aload_n 0, 1) := by decide +kernel
theorem dX9_allDone_17 : decode cX9_allDone 17 = .ok (.getfield 180, 3) := by decide +kernel
theorem dX9_allDone_20 : decode cX9_allDone 20 = .ok (.istore_n 1, 1) := by decide +kernel
theorem dX9_allDone_21 : decode cX9_allDone 21 = .ok (.aload_n 0, 1) := by decide +kernel
theorem dX9_allDone_22 : decode cX9_allDone 22 = .ok (.invokevirtual 198, 3) := by decide +kernel
theorem dX9_allDone_25 : decode cX9_allDone 25 = .ok (.istore_n 2, 1) := by decide +kernel
theorem dX9_allDone_26 : decode cX9_allDone 26 = .ok (.aload_n 0, 1) := by decide +kernel
theorem dX9_allDone_27 : decode cX9_allDone 27 = .ok (.iload_n 2, 1) := by decide +kernel
theorem dX9_allDone_28 : decode cX9_allDone 28 = .ok (.invokevirtual 201, 3) := by decide +kernel
theorem dX9_allDone_31 : decode cX9_allDone 31 = .ok (.ifCond .eq 9, 3) := by decide +kernel
theorem dX9_allDone_34 : decode cX9_allDone 34 = .ok (.sipush (-2000), 3) := by decide +kernel
theorem dX9_allDone_37 : decode cX9_allDone 37 = .ok (.iload_n 1, 1) := by decide +kernel
theorem dX9_allDone_38 : decode cX9_allDone 38 = .ok (.isub, 1) := by decide +kernel
theorem dX9_allDone_39 : decode cX9_allDone 39 = .ok (.ireturn, 1) := by decide +kernel
theorem dX9_allDone_40 : decode cX9_allDone 40 = .ok (.aload_n 0, 1) := by decide +kernel
theorem dX9_allDone_41 : decode cX9_allDone 41 = .ok (.iload_n 2, 1) := by decide +kernel
theorem dX9_allDone_42 : decode cX9_allDone 42 = .ok (.invokevirtual 204, 3) := by decide +kernel
theorem dX9_allDone_45 : decode cX9_allDone 45 = .ok (.goto (-40), 3) := by decide +kernel
theorem dX9_allDone_48 : decode cX9_allDone 48 = .ok (.iconst 0, 1) := by decide +kernel
theorem dX9_allDone_49 : decode cX9_allDone 49 = .ok (.ireturn, 1) := by decide +kernel
theorem dX9_tells_0 : decode cX9_tells 0 = .ok (.aload_n 0, 1) := by decide +kernel
theorem dX9_tells_1 : decode cX9_tells 1 = .ok (.invokevirtual 207, 3) := by decide +kernel
theorem dX9_tells_4 : decode cX9_tells 4 = .ok (.istore_n 1, 1) := by decide +kernel
theorem dX9_tells_5 : decode cX9_tells 5 = .ok (.iload_n 1, 1) := by decide +kernel
theorem dX9_tells_6 : decode cX9_tells 6 = .ok (.ifCond .le 30, 3) := by decide +kernel
theorem dX9_tells_9 : decode cX9_tells 9 = .ok (.aload_n 0, 1) := by decide +kernel
theorem dX9_tells_10 : decode cX9_tells 10 = .ok (.aload_n 0, 1) := by decide +kernel
theorem dX9_tells_11 : decode cX9_tells 11 = .ok (.getfield 51, 3) := by decide +kernel
theorem dX9_tells_14 : decode cX9_tells 14 = .ok (.invokevirtual 210, 3) := by decide +kernel
theorem dX9_tells_17 : decode cX9_tells 17 = .ok (.aload_n 0, 1) := by decide +kernel
theorem dX9_tells_18 : decode cX9_tells 18 = .ok (.invokevirtual 214, 3) := by decide +kernel
theorem dX9_tells_21 : decode cX9_tells 21 = .ok (.istore_n 2, 1) := by decide +kernel
theorem dX9_tells_22 : decode cX9_tells 22 = .ok (.iload_n 2, 1) := by decide +kernel
theorem dX9_tells_23 : decode cX9_tells 23 = .ok (.ifCond .ge 13, 3) := by decide +kernel
theorem dX9_tells_26 : decode cX9_tells 26 = .ok (.aload_n 0, 1) := by decide +kernel
theorem dX9_tells_27 : decode cX9_tells 27 = .ok (.aload_n 0, 1) := by decide +kernel
theorem dX9_tells_28 : decode cX9_tells 28 = .ok (.getfield 51, 3) := by decide +kernel
theorem dX9_tells_31 : decode cX9_tells 31 = .ok (.invokevirtual 217, 3) := by decide +kernel
theorem dX9_tells_34 : decode cX9_tells 34 = .ok (.iload_n 2, 1) := by decide +kernel
theorem dX9_tells_35 : decode cX9_tells 35 = .ok (.istore_n 1, 1) := by decide +kernel
theorem dX9_tells_36 : decode cX9_tells 36 = .ok (.aload_n 0, 1) := by decide +kernel
theorem dX9_tells_37 : decode cX9_tells 37 = .ok (.iconst 0, 1) := by decide +kernel
theorem dX9_tells_38 : decode cX9_tells 38 = .ok (.putfield 177, 3) := by decide +kernel
theorem dX9_tells_41 : decode cX9_tells 41 = .ok (.iload_n 1, 1) := by decide +kernel
theorem dX9_tells_42 : decode cX9_tells 42 = .ok (.ireturn, 1) := by decide +kernel
theorem dX9_allThere_0 : decode cX9_allThere 0 = .ok (.aload_n 0, 1) := by decide +kernel
theorem dX9_allThere_1 : decode cX9_allThere 1 = .ok (.aload_n 0, 1) := by decide +kernel
theorem dX9_allThere_2 : decode cX9_allThere 2 = .ok (.getfield 120, 3) := by decide +kernel
theorem dX9_allThere_5 : decode cX9_allThere 5 = .ok (.putfield 220, 3) := by decide +kernel
theorem dX9_allThere_8 : decode cX9_allThere 8 = .ok (.aload_n 0, 1) := by decide +kernel
theorem dX9_allThere_9 : decode cX9_allThere 9 = .ok (.iconst 1, 1) := by decide +kernel
theorem dX9_allThere_10 : decode cX9_allThere 10 = .ok (.aload_n 0, 1) := by decide +kernel
theorem dX9_allThere_11 : decode cX9_allThere 11 = .ok (.getfield 120, 3) := by decide +kernel
theorem dX9_allThere_14 : decode cX9_allThere 14 = .ok (.ishl, 1) := by decide +kernel
theorem dX9_allThere_15 : decode cX9_allThere 15 = .ok (.iconst 1, 1) := by decide +kernel
theorem dX9_allThere_16 : decode cX9_allThere 16 = .ok (.isub, 1) := by decide +kernel
theorem dX9_allThere_17 : decode cX9_allThere 17 = .ok (.putfield 223, 3) := by decide +kernel
theorem dX9_allThere_20 : decode cX9_allThere 20 = .ok (.return_, 1) := by decide +kernel
theorem dX9_reach_0 : decode cX9_reach 0 = .ok (.iconst 1, 1) := by decide +kernel
theorem dX9_reach_1 : decode cX9_reach 1 = .ok (.iload_n 1, 1) := by decide +kernel
theorem dX9_reach_2 : decode cX9_reach 2 = .ok (.ishl, 1) := by decide +kernel
theorem dX9_reach_3 : decode cX9_reach 3 = .ok (.istore_n 2, 1) := by decide +kernel
theorem dX9_reach_4 : decode cX9_reach 4 = .ok (.iconst 0, 1) := by decide +kernel
theorem dX9_reach_5 : decode cX9_reach 5 = .ok (.istore_n 3, 1) := by decide +kernel
theorem dX9_reach_6 : decode cX9_reach 6 = .ok (.iload_n 3, 1) := by decide +kernel
theorem dX9_reach_7 : decode cX9_reach 7 = .ok (.bipush 6, 2) := by decide +kernel
theorem dX9_reach_9 : decode cX9_reach 9 = .ok (.if_icmp .ge 89, 3) := by decide +kernel
theorem dX9_reach_12 : decode cX9_reach 12 = .ok (.iconst 0, 1) := by decide +kernel
theorem dX9_reach_13 : decode cX9_reach 13 = .ok (.istore 4, 2) := by decide +kernel
theorem dX9_reach_15 : decode cX9_reach 15 = .ok (.iload 4, 2) := by decide +kernel
theorem dX9_reach_17 : decode cX9_reach 17 = .ok (.aload_n 0, 1) := by decide +kernel
theorem dX9_reach_18 : decode cX9_reach 18 = .ok (.getfield 220, 3) := by decide +kernel
theorem dX9_reach_21 : decode cX9_reach 21 = .ok (.if_icmp .ge 71, 3) := by decide +kernel
theorem dX9_reach_24 : decode cX9_reach 24 = .ok (.aload_n 0, 1) := by decide +kernel
theorem dX9_reach_25 : decode cX9_reach 25 = .ok (.getfield 223, 3) := by decide +kernel
theorem dX9_reach_28 : decode cX9_reach 28 = .ok (.iload 4, 2) := by decide +kernel
theorem dX9_reach_30 : decode cX9_reach 30 = .ok (.invokestatic 226, 3) := by decide +kernel
theorem dX9_reach_33 : decode cX9_reach 33 = .ok (.ifCond .eq 53, 3) := by decide +kernel
theorem dX9_reach_36 : decode cX9_reach 36 = .ok (.iload_n 2, 1) := by decide +kernel
theorem dX9_reach_37 : decode cX9_reach 37 = .ok (.aload_n 0, 1) := by decide +kernel
theorem dX9_reach_38 : decode cX9_reach 38 = .ok (.getfield 13, 3) := by decide +kernel
theorem dX9_reach_41 : decode cX9_reach 41 = .ok (.iload 4, 2) := by decide +kernel
theorem dX9_reach_43 : decode cX9_reach 43 = .ok (.iaload, 1) := by decide +kernel
theorem dX9_reach_44 : decode cX9_reach 44 = .ok (.invokestatic 226, 3) := by decide +kernel
theorem dX9_reach_47 : decode cX9_reach 47 = .ok (.ifCond .ne 17, 3) := by decide +kernel
theorem dX9_reach_50 : decode cX9_reach 50 = .ok (.iload_n 2, 1) := by decide +kernel
theorem dX9_reach_51 : decode cX9_reach 51 = .ok (.aload_n 0, 1) := by decide +kernel
theorem dX9_reach_52 : decode cX9_reach 52 = .ok (.getfield 17, 3) := by decide +kernel
theorem dX9_reach_55 : decode cX9_reach 55 = .ok (.iload 4, 2) := by decide +kernel
theorem dX9_reach_57 : decode cX9_reach 57 = .ok (.iaload, 1) := by decide +kernel
theorem dX9_reach_58 : decode cX9_reach 58 = .ok (.invokestatic 226, 3) := by decide +kernel
theorem dX9_reach_61 : decode cX9_reach 61 = .ok (.ifCond .eq 25, 3) := by decide +kernel
theorem dX9_reach_64 : decode cX9_reach 64 = .ok (.iload_n 2, 1) := by decide +kernel
theorem dX9_reach_65 : decode cX9_reach 65 = .ok (.iconst 1, 1) := by decide +kernel
theorem dX9_reach_66 : decode cX9_reach 66 = .ok (.aload_n 0, 1) := by decide +kernel
theorem dX9_reach_67 : decode cX9_reach 67 = .ok (.getfield 13, 3) := by decide +kernel
theorem dX9_reach_70 : decode cX9_reach 70 = .ok (.iload 4, 2) := by decide +kernel
theorem dX9_reach_72 : decode cX9_reach 72 = .ok (.iaload, 1) := by decide +kernel
theorem dX9_reach_73 : decode cX9_reach 73 = .ok (.ishl, 1) := by decide +kernel
theorem dX9_reach_74 : decode cX9_reach 74 = .ok (.iconst 1, 1) := by decide +kernel
theorem dX9_reach_75 : decode cX9_reach 75 = .ok (.aload_n 0, 1) := by decide +kernel
theorem dX9_reach_76 : decode cX9_reach 76 = .ok (.getfield 17, 3) := by decide +kernel
theorem dX9_reach_79 : decode cX9_reach 79 = .ok (.iload 4, 2) := by decide +kernel
theorem dX9_reach_81 : decode cX9_reach 81 = .ok (.iaload, 1) := by decide +kernel
theorem dX9_reach_82 : decode cX9_reach 82 = .ok (.ishl, 1) := by decide +kernel
theorem dX9_reach_83 : decode cX9_reach 83 = .ok (.ior, 1) := by decide +kernel
theorem dX9_reach_84 : decode cX9_reach 84 = .ok (.ior, 1) := by decide +kernel
theorem dX9_reach_85 : decode cX9_reach 85 = .ok (.istore_n 2, 1) := by decide +kernel
theorem dX9_reach_86 : decode cX9_reach 86 = .ok (.iinc 4 1, 3) := by decide +kernel
theorem dX9_reach_89 : decode cX9_reach 89 = .ok (.goto (-74), 3) := by decide +kernel
theorem dX9_reach_92 : decode cX9_reach 92 = .ok (.iinc 3 1, 3) := by decide +kernel
theorem dX9_reach_95 : decode cX9_reach 95 = .ok (.goto (-89), 3) := by decide +kernel
theorem dX9_reach_98 : decode cX9_reach 98 = .ok (.iload_n 2, 1) := by decide +kernel
theorem dX9_reach_99 : decode cX9_reach 99 = .ok (.ireturn, 1) := by decide +kernel
theorem dX9_reaches_0 : decode cX9_reaches 0 = .ok (.aload_n 0, 1) := by decide +kernel
theorem dX9_reaches_1 : decode cX9_reaches 1 = .ok (.iload_n 1, 1) := by decide +kernel
theorem dX9_reaches_2 : decode cX9_reaches 2 = .ok (.invokevirtual 141, 3) := by decide +kernel
theorem dX9_reaches_5 : decode cX9_reaches 5 = .ok (.ifCond .ne 9, 3) := by decide +kernel
theorem dX9_reaches_8 : decode cX9_reaches 8 = .ok (.aload_n 0, 1) := by decide +kernel
theorem dX9_reaches_9 : decode cX9_reaches 9 = .ok (.iconst (-1), 1) := by decide +kernel
theorem dX9_reaches_10 : decode cX9_reaches 10 = .ok (.invokevirtual 125, 3) := by decide +kernel
theorem dX9_reaches_13 : decode cX9_reaches 13 = .ok (.ireturn, 1) := by decide +kernel
theorem dX9_reaches_14 : decode cX9_reaches 14 = .ok (.aload_n 0, 1) := by decide +kernel
theorem dX9_reaches_15 : decode cX9_reaches 15 = .ok (.invokevirtual 230, 3) := by decide +kernel
theorem dX9_reaches_18 : decode cX9_reaches 18 = .ok (.aload_n 0, 1) := by decide +kernel
theorem dX9_reaches_19 : decode cX9_reaches 19 = .ok (.iload_n 1, 1) := by decide +kernel
theorem dX9_reaches_20 : decode cX9_reaches 20 = .ok (.invokevirtual 233, 3) := by decide +kernel
theorem dX9_reaches_23 : decode cX9_reaches 23 = .ok (.ireturn, 1) := by decide +kernel
theorem dX9_bits_0 : decode cX9_bits 0 = .ok (.iconst 0, 1) := by decide +kernel
theorem dX9_bits_1 : decode cX9_bits 1 = .ok (.istore_n 1, 1) := by decide +kernel
theorem dX9_bits_2 : decode cX9_bits 2 = .ok (.iload_n 0, 1) := by decide +kernel
theorem dX9_bits_3 : decode cX9_bits 3 = .ok (.istore_n 2, 1) := by decide +kernel
theorem dX9_bits_4 : decode cX9_bits 4 = .ok (.iload_n 2, 1) := by decide +kernel
theorem dX9_bits_5 : decode cX9_bits 5 = .ok (.ifCond .eq 15, 3) := by decide +kernel
theorem dX9_bits_8 : decode cX9_bits 8 = .ok (.iinc 1 1, 3) := by decide +kernel
theorem dX9_bits_11 : decode cX9_bits 11 = .ok (.iload_n 2, 1) := by decide +kernel
theorem dX9_bits_12 : decode cX9_bits 12 = .ok (.iload_n 2, 1) := by decide +kernel
theorem dX9_bits_13 : decode cX9_bits 13 = .ok (.iconst 1, 1) := by decide +kernel
theorem dX9_bits_14 : decode cX9_bits 14 = .ok (.isub, 1) := by decide +kernel
theorem dX9_bits_15 : decode cX9_bits 15 = .ok (.iand, 1) := by decide +kernel
theorem dX9_bits_16 : decode cX9_bits 16 = .ok (.istore_n 2, 1) := by decide +kernel
theorem dX9_bits_17 : decode cX9_bits 17 = .ok (.goto (-13), 3) := by decide +kernel
theorem dX9_bits_20 : decode cX9_bits 20 = .ok (.iload_n 1, 1) := by decide +kernel
theorem dX9_bits_21 : decode cX9_bits 21 = .ok (.ireturn, 1) := by decide +kernel
theorem dX9_weightsAt_0 : decode cX9_weightsAt 0 = .ok (.iconst 0, 1) := by decide +kernel
theorem dX9_weightsAt_1 : decode cX9_weightsAt 1 = .ok (.istore_n 2, 1) := by decide +kernel
theorem dX9_weightsAt_2 : decode cX9_weightsAt 2 = .ok (.iconst 0, 1) := by decide +kernel
theorem dX9_weightsAt_3 : decode cX9_weightsAt 3 = .ok (.istore_n 3, 1) := by decide +kernel
theorem dX9_weightsAt_4 : decode cX9_weightsAt 4 = .ok (.iload_n 3, 1) := by decide +kernel
theorem dX9_weightsAt_5 : decode cX9_weightsAt 5 = .ok (.aload_n 0, 1) := by decide +kernel
theorem dX9_weightsAt_6 : decode cX9_weightsAt 6 = .ok (.getfield 220, 3) := by decide +kernel
theorem dX9_weightsAt_9 : decode cX9_weightsAt 9 = .ok (.if_icmp .ge 52, 3) := by decide +kernel
theorem dX9_weightsAt_12 : decode cX9_weightsAt 12 = .ok (.iload_n 2, 1) := by decide +kernel
theorem dX9_weightsAt_13 : decode cX9_weightsAt 13 = .ok (.aload_n 0, 1) := by decide +kernel
theorem dX9_weightsAt_14 : decode cX9_weightsAt 14 = .ok (.getfield 223, 3) := by decide +kernel
theorem dX9_weightsAt_17 : decode cX9_weightsAt 17 = .ok (.iload_n 3, 1) := by decide +kernel
theorem dX9_weightsAt_18 : decode cX9_weightsAt 18 = .ok (.invokestatic 226, 3) := by decide +kernel
theorem dX9_weightsAt_21 : decode cX9_weightsAt 21 = .ok (.ifCond .eq 31, 3) := by decide +kernel
theorem dX9_weightsAt_24 : decode cX9_weightsAt 24 = .ok (.aload_n 0, 1) := by decide +kernel
theorem dX9_weightsAt_25 : decode cX9_weightsAt 25 = .ok (.getfield 13, 3) := by decide +kernel
theorem dX9_weightsAt_28 : decode cX9_weightsAt 28 = .ok (.iload_n 3, 1) := by decide +kernel
theorem dX9_weightsAt_29 : decode cX9_weightsAt 29 = .ok (.iaload, 1) := by decide +kernel
theorem dX9_weightsAt_30 : decode cX9_weightsAt 30 = .ok (.iload_n 1, 1) := by decide +kernel
theorem dX9_weightsAt_31 : decode cX9_weightsAt 31 = .ok (.if_icmp .eq 13, 3) := by decide +kernel
theorem dX9_weightsAt_34 : decode cX9_weightsAt 34 = .ok (.aload_n 0, 1) := by decide +kernel
theorem dX9_weightsAt_35 : decode cX9_weightsAt 35 = .ok (.getfield 17, 3) := by decide +kernel
theorem dX9_weightsAt_38 : decode cX9_weightsAt 38 = .ok (.iload_n 3, 1) := by decide +kernel
theorem dX9_weightsAt_39 : decode cX9_weightsAt 39 = .ok (.iaload, 1) := by decide +kernel
theorem dX9_weightsAt_40 : decode cX9_weightsAt 40 = .ok (.iload_n 1, 1) := by decide +kernel
theorem dX9_weightsAt_41 : decode cX9_weightsAt 41 = .ok (.if_icmp .ne 11, 3) := by decide +kernel
theorem dX9_weightsAt_44 : decode cX9_weightsAt 44 = .ok (.aload_n 0, 1) := by decide +kernel
theorem dX9_weightsAt_45 : decode cX9_weightsAt 45 = .ok (.iload_n 3, 1) := by decide +kernel
theorem dX9_weightsAt_46 : decode cX9_weightsAt 46 = .ok (.invokevirtual 171, 3) := by decide +kernel
theorem dX9_weightsAt_49 : decode cX9_weightsAt 49 = .ok (.goto 4, 3) := by decide +kernel
theorem dX9_weightsAt_52 : decode cX9_weightsAt 52 = .ok (.iconst 0, 1) := by decide +kernel
theorem dX9_weightsAt_53 : decode cX9_weightsAt 53 = .ok (.iadd, 1) := by decide +kernel
theorem dX9_weightsAt_54 : decode cX9_weightsAt 54 = .ok (.istore_n 2, 1) := by decide +kernel
theorem dX9_weightsAt_55 : decode cX9_weightsAt 55 = .ok (.iinc 3 1, 3) := by decide +kernel
theorem dX9_weightsAt_58 : decode cX9_weightsAt 58 = .ok (.goto (-54), 3) := by decide +kernel
theorem dX9_weightsAt_61 : decode cX9_weightsAt 61 = .ok (.iload_n 2, 1) := by decide +kernel
theorem dX9_weightsAt_62 : decode cX9_weightsAt 62 = .ok (.ireturn, 1) := by decide +kernel
theorem dX9_between_0 : decode cX9_between 0 = .ok (.iconst 0, 1) := by decide +kernel
theorem dX9_between_1 : decode cX9_between 1 = .ok (.istore_n 3, 1) := by decide +kernel
theorem dX9_between_2 : decode cX9_between 2 = .ok (.iconst 0, 1) := by decide +kernel
theorem dX9_between_3 : decode cX9_between 3 = .ok (.istore 4, 2) := by decide +kernel
theorem dX9_between_5 : decode cX9_between 5 = .ok (.iload 4, 2) := by decide +kernel
theorem dX9_between_7 : decode cX9_between 7 = .ok (.aload_n 0, 1) := by decide +kernel
theorem dX9_between_8 : decode cX9_between 8 = .ok (.getfield 220, 3) := by decide +kernel
theorem dX9_between_11 : decode cX9_between 11 = .ok (.if_icmp .ge 78, 3) := by decide +kernel
theorem dX9_between_14 : decode cX9_between 14 = .ok (.iload_n 3, 1) := by decide +kernel
theorem dX9_between_15 : decode cX9_between 15 = .ok (.aload_n 0, 1) := by decide +kernel
theorem dX9_between_16 : decode cX9_between 16 = .ok (.getfield 223, 3) := by decide +kernel
theorem dX9_between_19 : decode cX9_between 19 = .ok (.iload 4, 2) := by decide +kernel
theorem dX9_between_21 : decode cX9_between 21 = .ok (.invokestatic 226, 3) := by decide +kernel
theorem dX9_between_24 : decode cX9_between 24 = .ok (.ifCond .eq 56, 3) := by decide +kernel
theorem dX9_between_27 : decode cX9_between 27 = .ok (.aload_n 0, 1) := by decide +kernel
theorem dX9_between_28 : decode cX9_between 28 = .ok (.getfield 13, 3) := by decide +kernel
theorem dX9_between_31 : decode cX9_between 31 = .ok (.iload 4, 2) := by decide +kernel
theorem dX9_between_33 : decode cX9_between 33 = .ok (.iaload, 1) := by decide +kernel
theorem dX9_between_34 : decode cX9_between 34 = .ok (.iload_n 1, 1) := by decide +kernel
theorem dX9_between_35 : decode cX9_between 35 = .ok (.if_icmp .ne 14, 3) := by decide +kernel
theorem dX9_between_38 : decode cX9_between 38 = .ok (.aload_n 0, 1) := by decide +kernel
theorem dX9_between_39 : decode cX9_between 39 = .ok (.getfield 17, 3) := by decide +kernel
theorem dX9_between_42 : decode cX9_between 42 = .ok (.iload 4, 2) := by decide +kernel
theorem dX9_between_44 : decode cX9_between 44 = .ok (.iaload, 1) := by decide +kernel
theorem dX9_between_45 : decode cX9_between 45 = .ok (.iload_n 2, 1) := by decide +kernel
theorem dX9_between_46 : decode cX9_between 46 = .ok (.if_icmp .eq 25, 3) := by decide +kernel
theorem dX9_between_49 : decode cX9_between 49 = .ok (.aload_n 0, 1) := by decide +kernel
theorem dX9_between_50 : decode cX9_between 50 = .ok (.getfield 13, 3) := by decide +kernel
theorem dX9_between_53 : decode cX9_between 53 = .ok (.iload 4, 2) := by decide +kernel
theorem dX9_between_55 : decode cX9_between 55 = .ok (.iaload, 1) := by decide +kernel
theorem dX9_between_56 : decode cX9_between 56 = .ok (.iload_n 2, 1) := by decide +kernel
theorem dX9_between_57 : decode cX9_between 57 = .ok (.if_icmp .ne 23, 3) := by decide +kernel
theorem dX9_between_60 : decode cX9_between 60 = .ok (.aload_n 0, 1) := by decide +kernel
theorem dX9_between_61 : decode cX9_between 61 = .ok (.getfield 17, 3) := by decide +kernel
theorem dX9_between_64 : decode cX9_between 64 = .ok (.iload 4, 2) := by decide +kernel
theorem dX9_between_66 : decode cX9_between 66 = .ok (.iaload, 1) := by decide +kernel
theorem dX9_between_67 : decode cX9_between 67 = .ok (.iload_n 1, 1) := by decide +kernel
theorem dX9_between_68 : decode cX9_between 68 = .ok (.if_icmp .ne 12, 3) := by decide +kernel
theorem dX9_between_71 : decode cX9_between 71 = .ok (.aload_n 0, 1) := by decide +kernel
theorem dX9_between_72 : decode cX9_between 72 = .ok (.iload 4, 2) := by decide +kernel
theorem dX9_between_74 : decode cX9_between 74 = .ok (.invokevirtual 171, 3) := by decide +kernel
theorem dX9_between_77 : decode cX9_between 77 = .ok (.goto 4, 3) := by decide +kernel
theorem dX9_between_80 : decode cX9_between 80 = .ok (.iconst 0, 1) := by decide +kernel
theorem dX9_between_81 : decode cX9_between 81 = .ok (.iadd, 1) := by decide +kernel
theorem dX9_between_82 : decode cX9_between 82 = .ok (.istore_n 3, 1) := by decide +kernel
theorem dX9_between_83 : decode cX9_between 83 = .ok (.iinc 4 1, 3) := by decide +kernel
theorem dX9_between_86 : decode cX9_between 86 = .ok (.goto (-81), 3) := by decide +kernel
theorem dX9_between_89 : decode cX9_between 89 = .ok (.iload_n 3, 1) := by decide +kernel
theorem dX9_between_90 : decode cX9_between 90 = .ok (.ireturn, 1) := by decide +kernel
theorem dX9_within_0 : decode cX9_within 0 = .ok (.aload_n 0, 1) := by decide +kernel
theorem dX9_within_1 : decode cX9_within 1 = .ok (.iconst 0, 1) := by decide +kernel
theorem dX9_within_2 : decode cX9_within 2 = .ok (.putfield 236, 3) := by decide +kernel
theorem dX9_within_5 : decode cX9_within 5 = .ok (.iconst 0, 1) := by decide +kernel
theorem dX9_within_6 : decode cX9_within 6 = .ok (.istore_n 2, 1) := by decide +kernel
theorem dX9_within_7 : decode cX9_within 7 = .ok (.iload_n 2, 1) := by decide +kernel
theorem dX9_within_8 : decode cX9_within 8 = .ok (.aload_n 0, 1) := by decide +kernel
theorem dX9_within_9 : decode cX9_within 9 = .ok (.getfield 7, 3) := by decide +kernel
theorem dX9_within_12 : decode cX9_within 12 = .ok (.if_icmp .ge 40, 3) := by decide +kernel
theorem dX9_within_15 : decode cX9_within 15 = .ok (.iload_n 1, 1) := by decide +kernel
theorem dX9_within_16 : decode cX9_within 16 = .ok (.iload_n 2, 1) := by decide +kernel
theorem dX9_within_17 : decode cX9_within 17 = .ok (.invokestatic 226, 3) := by decide +kernel
theorem dX9_within_20 : decode cX9_within 20 = .ok (.ifCond .ne 6, 3) := by decide +kernel
theorem dX9_within_23 : decode cX9_within 23 = .ok (.goto 23, 3) := by decide +kernel
theorem dX9_within_26 : decode cX9_within 26 = .ok (.aload_n 0, 1) := by decide +kernel
theorem dX9_within_27 : decode cX9_within 27 = .ok (.getfield 57, 3) := by decide +kernel
theorem dX9_within_30 : decode cX9_within 30 = .ok (.aload_n 0, 1) := by decide +kernel
theorem dX9_within_31 : decode cX9_within 31 = .ok (.getfield 236, 3) := by decide +kernel
theorem dX9_within_34 : decode cX9_within 34 = .ok (.iload_n 2, 1) := by decide +kernel
theorem dX9_within_35 : decode cX9_within 35 = .ok (.iastore, 1) := by decide +kernel
theorem dX9_within_36 : decode cX9_within 36 = .ok (.aload_n 0, 1) := by decide +kernel
theorem dX9_within_37 : decode cX9_within 37 = .ok (.dup, 1) := by decide +kernel
theorem dX9_within_38 : decode cX9_within 38 = .ok (.getfield 236, 3) := by decide +kernel
theorem dX9_within_41 : decode cX9_within 41 = .ok (.iconst 1, 1) := by decide +kernel
theorem dX9_within_42 : decode cX9_within 42 = .ok (.iadd, 1) := by decide +kernel
theorem dX9_within_43 : decode cX9_within 43 = .ok (.putfield 236, 3) := by decide +kernel
theorem dX9_within_46 : decode cX9_within 46 = .ok (.iinc 2 1, 3) := by decide +kernel
theorem dX9_within_49 : decode cX9_within 49 = .ok (.goto (-42), 3) := by decide +kernel
theorem dX9_within_52 : decode cX9_within 52 = .ok (.iconst 0, 1) := by decide +kernel
theorem dX9_within_53 : decode cX9_within 53 = .ok (.istore_n 2, 1) := by decide +kernel
theorem dX9_within_54 : decode cX9_within 54 = .ok (.iload_n 2, 1) := by decide +kernel
theorem dX9_within_55 : decode cX9_within 55 = .ok (.aload_n 0, 1) := by decide +kernel
theorem dX9_within_56 : decode cX9_within 56 = .ok (.getfield 236, 3) := by decide +kernel
theorem dX9_within_59 : decode cX9_within 59 = .ok (.if_icmp .ge 80, 3) := by decide +kernel
theorem dX9_within_62 : decode cX9_within 62 = .ok (.iconst 0, 1) := by decide +kernel
theorem dX9_within_63 : decode cX9_within 63 = .ok (.istore_n 3, 1) := by decide +kernel
theorem dX9_within_64 : decode cX9_within 64 = .ok (.iload_n 3, 1) := by decide +kernel
theorem dX9_within_65 : decode cX9_within 65 = .ok (.aload_n 0, 1) := by decide +kernel
theorem dX9_within_66 : decode cX9_within 66 = .ok (.getfield 236, 3) := by decide +kernel
theorem dX9_within_69 : decode cX9_within 69 = .ok (.if_icmp .ge 57, 3) := by decide +kernel
theorem dX9_within_72 : decode cX9_within 72 = .ok (.aload_n 0, 1) := by decide +kernel
theorem dX9_within_73 : decode cX9_within 73 = .ok (.getfield 60, 3) := by decide +kernel
theorem dX9_within_76 : decode cX9_within 76 = .ok (.bipush 6, 2) := by decide +kernel
theorem dX9_within_78 : decode cX9_within 78 = .ok (.iload_n 2, 1) := by decide +kernel
theorem dX9_within_79 : decode cX9_within 79 = .ok (.imul, 1) := by decide +kernel
theorem dX9_within_80 : decode cX9_within 80 = .ok (.iload_n 3, 1) := by decide +kernel
theorem dX9_within_81 : decode cX9_within 81 = .ok (.iadd, 1) := by decide +kernel
theorem dX9_within_82 : decode cX9_within 82 = .ok (.iload_n 2, 1) := by decide +kernel
theorem dX9_within_83 : decode cX9_within 83 = .ok (.iload_n 3, 1) := by decide +kernel
theorem dX9_within_84 : decode cX9_within 84 = .ok (.if_icmp .ne 17, 3) := by decide +kernel
theorem dX9_within_87 : decode cX9_within 87 = .ok (.aload_n 0, 1) := by decide +kernel
theorem dX9_within_88 : decode cX9_within 88 = .ok (.aload_n 0, 1) := by decide +kernel
theorem dX9_within_89 : decode cX9_within 89 = .ok (.getfield 57, 3) := by decide +kernel
theorem dX9_within_92 : decode cX9_within 92 = .ok (.iload_n 2, 1) := by decide +kernel
theorem dX9_within_93 : decode cX9_within 93 = .ok (.iaload, 1) := by decide +kernel
theorem dX9_within_94 : decode cX9_within 94 = .ok (.invokevirtual 239, 3) := by decide +kernel
theorem dX9_within_97 : decode cX9_within 97 = .ok (.i2l, 1) := by decide +kernel
theorem dX9_within_98 : decode cX9_within 98 = .ok (.goto 21, 3) := by decide +kernel
theorem dX9_within_101 : decode cX9_within 101 = .ok (.aload_n 0, 1) := by decide +kernel
theorem dX9_within_102 : decode cX9_within 102 = .ok (.aload_n 0, 1) := by decide +kernel
theorem dX9_within_103 : decode cX9_within 103 = .ok (.getfield 57, 3) := by decide +kernel
theorem dX9_within_106 : decode cX9_within 106 = .ok (.iload_n 2, 1) := by decide +kernel
theorem dX9_within_107 : decode cX9_within 107 = .ok (.iaload, 1) := by decide +kernel
theorem dX9_within_108 : decode cX9_within 108 = .ok (.aload_n 0, 1) := by decide +kernel
theorem dX9_within_109 : decode cX9_within 109 = .ok (.getfield 57, 3) := by decide +kernel
theorem dX9_within_112 : decode cX9_within 112 = .ok (.iload_n 3, 1) := by decide +kernel
theorem dX9_within_113 : decode cX9_within 113 = .ok (.iaload, 1) := by decide +kernel
theorem dX9_within_114 : decode cX9_within 114 = .ok (.invokevirtual 242, 3) := by decide +kernel
theorem dX9_within_117 : decode cX9_within 117 = .ok (.ineg, 1) := by decide +kernel
theorem dX9_within_118 : decode cX9_within 118 = .ok (.i2l, 1) := by decide +kernel
theorem dX9_within_119 : decode cX9_within 119 = .ok (.lastore, 1) := by decide +kernel
theorem dX9_within_120 : decode cX9_within 120 = .ok (.iinc 3 1, 3) := by decide +kernel
theorem dX9_within_123 : decode cX9_within 123 = .ok (.goto (-59), 3) := by decide +kernel
theorem dX9_within_126 : decode cX9_within 126 = .ok (.aload_n 0, 1) := by decide +kernel
theorem dX9_within_127 : decode cX9_within 127 = .ok (.getfield 64, 3) := by decide +kernel
theorem dX9_within_130 : decode cX9_within 130 = .ok (.iload_n 2, 1) := by decide +kernel
theorem dX9_within_131 : decode cX9_within 131 = .ok (.lconst 0, 1) := by decide +kernel
theorem dX9_within_132 : decode cX9_within 132 = .ok (.lastore, 1) := by decide +kernel
theorem dX9_within_133 : decode cX9_within 133 = .ok (.iinc 2 1, 3) := by decide +kernel
theorem dX9_within_136 : decode cX9_within 136 = .ok (.goto (-82), 3) := by decide +kernel
theorem dX9_within_139 : decode cX9_within 139 = .ok (.return_, 1) := by decide +kernel
theorem dX9_columnOf_0 : decode cX9_columnOf 0 = .ok (.iconst 0, 1) := by decide +kernel
theorem dX9_columnOf_1 : decode cX9_columnOf 1 = .ok (.istore_n 2, 1) := by decide +kernel
theorem dX9_columnOf_2 : decode cX9_columnOf 2 = .ok (.aload_n 0, 1) := by decide +kernel
theorem dX9_columnOf_3 : decode cX9_columnOf 3 = .ok (.getfield 57, 3) := by decide +kernel
theorem dX9_columnOf_6 : decode cX9_columnOf 6 = .ok (.iload_n 2, 1) := by decide +kernel
theorem dX9_columnOf_7 : decode cX9_columnOf 7 = .ok (.iaload, 1) := by decide +kernel
theorem dX9_columnOf_8 : decode cX9_columnOf 8 = .ok (.iload_n 1, 1) := by decide +kernel
theorem dX9_columnOf_9 : decode cX9_columnOf 9 = .ok (.if_icmp .eq 9, 3) := by decide +kernel
theorem dX9_columnOf_12 : decode cX9_columnOf 12 = .ok (.iinc 2 1, 3) := by decide +kernel
theorem dX9_columnOf_15 : decode cX9_columnOf 15 = .ok (.goto (-13), 3) := by decide +kernel
theorem dX9_columnOf_18 : decode cX9_columnOf 18 = .ok (.iload_n 2, 1) := by decide +kernel
theorem dX9_columnOf_19 : decode cX9_columnOf 19 = .ok (.ireturn, 1) := by decide +kernel
theorem dX9_det_0 : decode cX9_det 0 = .ok (.aload_n 0, 1) := by decide +kernel
theorem dX9_det_1 : decode cX9_det 1 = .ok (.getfield 67, 3) := by decide +kernel
theorem dX9_det_4 : decode cX9_det 4 = .ok (.iconst 0, 1) := by decide +kernel
theorem dX9_det_5 : decode cX9_det 5 = .ok (.lconst 1, 1) := by decide +kernel
theorem dX9_det_6 : decode cX9_det 6 = .ok (.lastore, 1) := by decide +kernel
theorem dX9_det_7 : decode cX9_det 7 = .ok (.iconst 1, 1) := by decide +kernel
theorem dX9_det_8 : decode cX9_det 8 = .ok (.istore_n 2, 1) := by decide +kernel
theorem dX9_det_9 : decode cX9_det 9 = .ok (.iload_n 2, 1) := by decide +kernel
theorem dX9_det_10 : decode cX9_det 10 = .ok (.iconst 1, 1) := by decide +kernel
theorem dX9_det_11 : decode cX9_det 11 = .ok (.aload_n 0, 1) := by decide +kernel
theorem dX9_det_12 : decode cX9_det 12 = .ok (.getfield 236, 3) := by decide +kernel
theorem dX9_det_15 : decode cX9_det 15 = .ok (.ishl, 1) := by decide +kernel
theorem dX9_det_16 : decode cX9_det 16 = .ok (.if_icmp .ge 126, 3) := by decide +kernel
theorem dX9_det_19 : decode cX9_det 19 = .ok (.iload_n 2, 1) := by decide +kernel
theorem dX9_det_20 : decode cX9_det 20 = .ok (.invokestatic 245, 3) := by decide +kernel
theorem dX9_det_23 : decode cX9_det 23 = .ok (.iconst 1, 1) := by decide +kernel
theorem dX9_det_24 : decode cX9_det 24 = .ok (.isub, 1) := by decide +kernel
theorem dX9_det_25 : decode cX9_det 25 = .ok (.istore_n 3, 1) := by decide +kernel
theorem dX9_det_26 : decode cX9_det 26 = .ok (.lconst 0, 1) := by decide +kernel
theorem dX9_det_27 : decode cX9_det 27 = .ok (.lstore 4, 2) := by decide +kernel
theorem dX9_det_29 : decode cX9_det 29 = .ok (.iconst 0, 1) := by decide +kernel
theorem dX9_det_30 : decode cX9_det 30 = .ok (.istore 6, 2) := by decide +kernel
theorem dX9_det_32 : decode cX9_det 32 = .ok (.iload 6, 2) := by decide +kernel
theorem dX9_det_34 : decode cX9_det 34 = .ok (.aload_n 0, 1) := by decide +kernel
theorem dX9_det_35 : decode cX9_det 35 = .ok (.getfield 236, 3) := by decide +kernel
theorem dX9_det_38 : decode cX9_det 38 = .ok (.if_icmp .ge 90, 3) := by decide +kernel
theorem dX9_det_41 : decode cX9_det 41 = .ok (.iload_n 2, 1) := by decide +kernel
theorem dX9_det_42 : decode cX9_det 42 = .ok (.iload 6, 2) := by decide +kernel
theorem dX9_det_44 : decode cX9_det 44 = .ok (.invokestatic 226, 3) := by decide +kernel
theorem dX9_det_47 : decode cX9_det 47 = .ok (.ifCond .ne 6, 3) := by decide +kernel
theorem dX9_det_50 : decode cX9_det 50 = .ok (.goto 72, 3) := by decide +kernel
theorem dX9_det_53 : decode cX9_det 53 = .ok (.iload 6, 2) := by decide +kernel
theorem dX9_det_55 : decode cX9_det 55 = .ok (.iload_n 1, 1) := by decide +kernel
theorem dX9_det_56 : decode cX9_det 56 = .ok (.if_icmp .ne 12, 3) := by decide +kernel
theorem dX9_det_59 : decode cX9_det 59 = .ok (.aload_n 0, 1) := by decide +kernel
theorem dX9_det_60 : decode cX9_det 60 = .ok (.getfield 64, 3) := by decide +kernel
theorem dX9_det_63 : decode cX9_det 63 = .ok (.iload_n 3, 1) := by decide +kernel
theorem dX9_det_64 : decode cX9_det 64 = .ok (.laload, 1) := by decide +kernel
theorem dX9_det_65 : decode cX9_det 65 = .ok (.goto 15, 3) := by decide +kernel
theorem dX9_det_68 : decode cX9_det 68 = .ok (.aload_n 0, 1) := by decide +kernel
theorem dX9_det_69 : decode cX9_det 69 = .ok (.getfield 60, 3) := by decide +kernel
theorem dX9_det_72 : decode cX9_det 72 = .ok (.bipush 6, 2) := by decide +kernel
theorem dX9_det_74 : decode cX9_det 74 = .ok (.iload_n 3, 1) := by decide +kernel
theorem dX9_det_75 : decode cX9_det 75 = .ok (.imul, 1) := by decide +kernel
theorem dX9_det_76 : decode cX9_det 76 = .ok (.iload 6, 2) := by decide +kernel
theorem dX9_det_78 : decode cX9_det 78 = .ok (.iadd, 1) := by decide +kernel
theorem dX9_det_79 : decode cX9_det 79 = .ok (.laload, 1) := by decide +kernel
theorem dX9_det_80 : decode cX9_det 80 = .ok (.aload_n 0, 1) := by decide +kernel
theorem dX9_det_81 : decode cX9_det 81 = .ok (.getfield 67, 3) := by decide +kernel
theorem dX9_det_84 : decode cX9_det 84 = .ok (.iload_n 2, 1) := by decide +kernel
theorem dX9_det_85 : decode cX9_det 85 = .ok (.iconst 1, 1) := by decide +kernel
theorem dX9_det_86 : decode cX9_det 86 = .ok (.iload 6, 2) := by decide +kernel
theorem dX9_det_88 : decode cX9_det 88 = .ok (.ishl, 1) := by decide +kernel
theorem dX9_det_89 : decode cX9_det 89 = .ok (.iconst (-1), 1) := by decide +kernel
theorem dX9_det_90 : decode cX9_det 90 = .ok (.ixor, 1) := by decide +kernel
theorem dX9_det_91 : decode cX9_det 91 = .ok (.iand, 1) := by decide +kernel
theorem dX9_det_92 : decode cX9_det 92 = .ok (.laload, 1) := by decide +kernel
theorem dX9_det_93 : decode cX9_det 93 = .ok (.lmul, 1) := by decide +kernel
theorem dX9_det_94 : decode cX9_det 94 = .ok (.lstore 7, 2) := by decide +kernel
theorem dX9_det_96 : decode cX9_det 96 = .ok (.lload 4, 2) := by decide +kernel
theorem dX9_det_98 : decode cX9_det 98 = .ok (.iload_n 2, 1) := by decide +kernel
theorem dX9_det_99 : decode cX9_det 99 = .ok (.iload 6, 2) := by decide +kernel
theorem dX9_det_101 : decode cX9_det 101 = .ok (.ishr, 1) := by decide +kernel
theorem dX9_det_102 : decode cX9_det 102 = .ok (.invokestatic 245, 3) := by decide +kernel
theorem dX9_det_105 : decode cX9_det 105 = .ok (.iconst 1, 1) := by decide +kernel
theorem dX9_det_106 : decode cX9_det 106 = .ok (.iand, 1) := by decide +kernel
theorem dX9_det_107 : decode cX9_det 107 = .ok (.iconst 1, 1) := by decide +kernel
theorem dX9_det_108 : decode cX9_det 108 = .ok (.if_icmp .ne 8, 3) := by decide +kernel
theorem dX9_det_111 : decode cX9_det 111 = .ok (.lload 7, 2) := by decide +kernel
theorem dX9_det_113 : decode cX9_det 113 = .ok (.goto 6, 3) := by decide +kernel
theorem dX9_det_116 : decode cX9_det 116 = .ok (.lload 7, 2) := by decide +kernel
theorem dX9_det_118 : decode cX9_det 118 = .ok (.lneg, 1) := by decide +kernel
theorem dX9_det_119 : decode cX9_det 119 = .ok (.ladd, 1) := by decide +kernel
theorem dX9_det_120 : decode cX9_det 120 = .ok (.lstore 4, 2) := by decide +kernel
theorem dX9_det_122 : decode cX9_det 122 = .ok (.iinc 6 1, 3) := by decide +kernel
theorem dX9_det_125 : decode cX9_det 125 = .ok (.goto (-93), 3) := by decide +kernel
theorem dX9_det_128 : decode cX9_det 128 = .ok (.aload_n 0, 1) := by decide +kernel
theorem dX9_det_129 : decode cX9_det 129 = .ok (.getfield 67, 3) := by decide +kernel
theorem dX9_det_132 : decode cX9_det 132 = .ok (.iload_n 2, 1) := by decide +kernel
theorem dX9_det_133 : decode cX9_det 133 = .ok (.lload 4, 2) := by decide +kernel
theorem dX9_det_135 : decode cX9_det 135 = .ok (.lastore, 1) := by decide +kernel
theorem dX9_det_136 : decode cX9_det 136 = .ok (.iinc 2 1, 3) := by decide +kernel
theorem dX9_det_139 : decode cX9_det 139 = .ok (.goto (-130), 3) := by decide +kernel
theorem dX9_det_142 : decode cX9_det 142 = .ok (.aload_n 0, 1) := by decide +kernel
theorem dX9_det_143 : decode cX9_det 143 = .ok (.getfield 67, 3) := by decide +kernel
theorem dX9_det_146 : decode cX9_det 146 = .ok (.iconst 1, 1) := by decide +kernel
theorem dX9_det_147 : decode cX9_det 147 = .ok (.aload_n 0, 1) := by decide +kernel
theorem dX9_det_148 : decode cX9_det 148 = .ok (.getfield 236, 3) := by decide +kernel
theorem dX9_det_151 : decode cX9_det 151 = .ok (.ishl, 1) := by decide +kernel
theorem dX9_det_152 : decode cX9_det 152 = .ok (.iconst 1, 1) := by decide +kernel
theorem dX9_det_153 : decode cX9_det 153 = .ok (.isub, 1) := by decide +kernel
theorem dX9_det_154 : decode cX9_det 154 = .ok (.laload, 1) := by decide +kernel
theorem dX9_det_155 : decode cX9_det 155 = .ok (.lreturn, 1) := by decide +kernel
theorem dX9_findTime_0 : decode cX9_findTime 0 = .ok (.aload_n 0, 1) := by decide +kernel
theorem dX9_findTime_1 : decode cX9_findTime 1 = .ok (.lconst 0, 1) := by decide +kernel
theorem dX9_findTime_2 : decode cX9_findTime 2 = .ok (.putfield 248, 3) := by decide +kernel
theorem dX9_findTime_5 : decode cX9_findTime 5 = .ok (.aload_n 0, 1) := by decide +kernel
theorem dX9_findTime_6 : decode cX9_findTime 6 = .ok (.lconst 1, 1) := by decide +kernel
theorem dX9_findTime_7 : decode cX9_findTime 7 = .ok (.putfield 252, 3) := by decide +kernel
theorem dX9_findTime_10 : decode cX9_findTime 10 = .ok (.iload_n 1, 1) := by decide +kernel
theorem dX9_findTime_11 : decode cX9_findTime 11 = .ok (.iload_n 2, 1) := by decide +kernel
theorem dX9_findTime_12 : decode cX9_findTime 12 = .ok (.if_icmp .ne 5, 3) := by decide +kernel
theorem dX9_findTime_15 : decode cX9_findTime 15 = .ok (.iconst 1, 1) := by decide +kernel
theorem dX9_findTime_16 : decode cX9_findTime 16 = .ok (.ireturn, 1) := by decide +kernel
theorem dX9_findTime_17 : decode cX9_findTime 17 = .ok (.aload_n 0, 1) := by decide +kernel
theorem dX9_findTime_18 : decode cX9_findTime 18 = .ok (.iload_n 2, 1) := by decide +kernel
theorem dX9_findTime_19 : decode cX9_findTime 19 = .ok (.invokevirtual 233, 3) := by decide +kernel
theorem dX9_findTime_22 : decode cX9_findTime 22 = .ok (.istore 4, 2) := by decide +kernel
theorem dX9_findTime_24 : decode cX9_findTime 24 = .ok (.iload 4, 2) := by decide +kernel
theorem dX9_findTime_26 : decode cX9_findTime 26 = .ok (.iload_n 1, 1) := by decide +kernel
theorem dX9_findTime_27 : decode cX9_findTime 27 = .ok (.invokestatic 226, 3) := by decide +kernel
theorem dX9_findTime_30 : decode cX9_findTime 30 = .ok (.ifCond .ne 5, 3) := by decide +kernel
theorem dX9_findTime_33 : decode cX9_findTime 33 = .ok (.iconst 0, 1) := by decide +kernel
theorem dX9_findTime_34 : decode cX9_findTime 34 = .ok (.ireturn, 1) := by decide +kernel
theorem dX9_findTime_35 : decode cX9_findTime 35 = .ok (.aload_n 0, 1) := by decide +kernel
theorem dX9_findTime_36 : decode cX9_findTime 36 = .ok (.iload 4, 2) := by decide +kernel
theorem dX9_findTime_38 : decode cX9_findTime 38 = .ok (.iconst 1, 1) := by decide +kernel
theorem dX9_findTime_39 : decode cX9_findTime 39 = .ok (.iload_n 2, 1) := by decide +kernel
theorem dX9_findTime_40 : decode cX9_findTime 40 = .ok (.ishl, 1) := by decide +kernel
theorem dX9_findTime_41 : decode cX9_findTime 41 = .ok (.iconst (-1), 1) := by decide +kernel
theorem dX9_findTime_42 : decode cX9_findTime 42 = .ok (.ixor, 1) := by decide +kernel
theorem dX9_findTime_43 : decode cX9_findTime 43 = .ok (.iand, 1) := by decide +kernel
theorem dX9_findTime_44 : decode cX9_findTime 44 = .ok (.invokevirtual 255, 3) := by decide +kernel
theorem dX9_findTime_47 : decode cX9_findTime 47 = .ok (.iconst 0, 1) := by decide +kernel
theorem dX9_findTime_48 : decode cX9_findTime 48 = .ok (.istore 5, 2) := by decide +kernel
theorem dX9_findTime_50 : decode cX9_findTime 50 = .ok (.iload 5, 2) := by decide +kernel
theorem dX9_findTime_52 : decode cX9_findTime 52 = .ok (.aload_n 0, 1) := by decide +kernel
theorem dX9_findTime_53 : decode cX9_findTime 53 = .ok (.getfield 236, 3) := by decide +kernel
theorem dX9_findTime_56 : decode cX9_findTime 56 = .ok (.if_icmp .ge 127, 3) := by decide +kernel
theorem dX9_findTime_59 : decode cX9_findTime 59 = .ok (.iconst 0, 1) := by decide +kernel
theorem dX9_findTime_60 : decode cX9_findTime 60 = .ok (.istore 6, 2) := by decide +kernel
theorem dX9_findTime_62 : decode cX9_findTime 62 = .ok (.iload 6, 2) := by decide +kernel
theorem dX9_findTime_64 : decode cX9_findTime 64 = .ok (.aload_n 0, 1) := by decide +kernel
theorem dX9_findTime_65 : decode cX9_findTime 65 = .ok (.getfield 220, 3) := by decide +kernel
theorem dX9_findTime_68 : decode cX9_findTime 68 = .ok (.if_icmp .ge 109, 3) := by decide +kernel
theorem dX9_findTime_71 : decode cX9_findTime 71 = .ok (.aload_n 0, 1) := by decide +kernel
theorem dX9_findTime_72 : decode cX9_findTime 72 = .ok (.getfield 223, 3) := by decide +kernel
theorem dX9_findTime_75 : decode cX9_findTime 75 = .ok (.iload 6, 2) := by decide +kernel
theorem dX9_findTime_77 : decode cX9_findTime 77 = .ok (.invokestatic 226, 3) := by decide +kernel
theorem dX9_findTime_80 : decode cX9_findTime 80 = .ok (.ifCond .eq 41, 3) := by decide +kernel
theorem dX9_findTime_83 : decode cX9_findTime 83 = .ok (.aload_n 0, 1) := by decide +kernel
theorem dX9_findTime_84 : decode cX9_findTime 84 = .ok (.getfield 13, 3) := by decide +kernel
theorem dX9_findTime_87 : decode cX9_findTime 87 = .ok (.iload 6, 2) := by decide +kernel
theorem dX9_findTime_89 : decode cX9_findTime 89 = .ok (.iaload, 1) := by decide +kernel
theorem dX9_findTime_90 : decode cX9_findTime 90 = .ok (.aload_n 0, 1) := by decide +kernel
theorem dX9_findTime_91 : decode cX9_findTime 91 = .ok (.getfield 57, 3) := by decide +kernel
theorem dX9_findTime_94 : decode cX9_findTime 94 = .ok (.iload 5, 2) := by decide +kernel
theorem dX9_findTime_96 : decode cX9_findTime 96 = .ok (.iaload, 1) := by decide +kernel
theorem dX9_findTime_97 : decode cX9_findTime 97 = .ok (.if_icmp .eq 20, 3) := by decide +kernel
theorem dX9_findTime_100 : decode cX9_findTime 100 = .ok (.aload_n 0, 1) := by decide +kernel
theorem dX9_findTime_101 : decode cX9_findTime 101 = .ok (.getfield 17, 3) := by decide +kernel
theorem dX9_findTime_104 : decode cX9_findTime 104 = .ok (.iload 6, 2) := by decide +kernel
theorem dX9_findTime_106 : decode cX9_findTime 106 = .ok (.iaload, 1) := by decide +kernel
theorem dX9_findTime_107 : decode cX9_findTime 107 = .ok (.aload_n 0, 1) := by decide +kernel
theorem dX9_findTime_108 : decode cX9_findTime 108 = .ok (.getfield 57, 3) := by decide +kernel
theorem dX9_findTime_111 : decode cX9_findTime 111 = .ok (.iload 5, 2) := by decide +kernel
theorem dX9_findTime_113 : decode cX9_findTime 113 = .ok (.iaload, 1) := by decide +kernel
theorem dX9_findTime_114 : decode cX9_findTime 114 = .ok (.if_icmp .ne 7, 3) := by decide +kernel
theorem dX9_findTime_117 : decode cX9_findTime 117 = .ok (.iconst 1, 1) := by decide +kernel
theorem dX9_findTime_118 : decode cX9_findTime 118 = .ok (.goto 4, 3) := by decide +kernel
theorem dX9_findTime_121 : decode cX9_findTime 121 = .ok (.iconst 0, 1) := by decide +kernel
theorem dX9_findTime_122 : decode cX9_findTime 122 = .ok (.istore 7, 2) := by decide +kernel
theorem dX9_findTime_124 : decode cX9_findTime 124 = .ok (.aload_n 0, 1) := by decide +kernel
theorem dX9_findTime_125 : decode cX9_findTime 125 = .ok (.getfield 64, 3) := by decide +kernel
theorem dX9_findTime_128 : decode cX9_findTime 128 = .ok (.iload 5, 2) := by decide +kernel
theorem dX9_findTime_130 : decode cX9_findTime 130 = .ok (.dup2, 1) := by decide +kernel
theorem dX9_findTime_131 : decode cX9_findTime 131 = .ok (.laload, 1) := by decide +kernel
theorem dX9_findTime_132 : decode cX9_findTime 132 = .ok (.iload 7, 2) := by decide +kernel
theorem dX9_findTime_134 : decode cX9_findTime 134 = .ok (.ifCond .ne 7, 3) := by decide +kernel
theorem dX9_findTime_137 : decode cX9_findTime 137 = .ok (.lconst 0, 1) := by decide +kernel
theorem dX9_findTime_138 : decode cX9_findTime 138 = .ok (.goto 31, 3) := by decide +kernel
theorem dX9_findTime_141 : decode cX9_findTime 141 = .ok (.iload_n 3, 1) := by decide +kernel
theorem dX9_findTime_142 : decode cX9_findTime 142 = .ok (.ifCond .eq 13, 3) := by decide +kernel
theorem dX9_findTime_145 : decode cX9_findTime 145 = .ok (.aload_n 0, 1) := by decide +kernel
theorem dX9_findTime_146 : decode cX9_findTime 146 = .ok (.iload 6, 2) := by decide +kernel
theorem dX9_findTime_148 : decode cX9_findTime 148 = .ok (.invokevirtual 171, 3) := by decide +kernel
theorem dX9_findTime_151 : decode cX9_findTime 151 = .ok (.i2l, 1) := by decide +kernel
theorem dX9_findTime_152 : decode cX9_findTime 152 = .ok (.goto 17, 3) := by decide +kernel
theorem dX9_findTime_155 : decode cX9_findTime 155 = .ok (.aload_n 0, 1) := by decide +kernel
theorem dX9_findTime_156 : decode cX9_findTime 156 = .ok (.iload 6, 2) := by decide +kernel
theorem dX9_findTime_158 : decode cX9_findTime 158 = .ok (.invokevirtual 171, 3) := by decide +kernel
theorem dX9_findTime_161 : decode cX9_findTime 161 = .ok (.aload_n 0, 1) := by decide +kernel
theorem dX9_findTime_162 : decode cX9_findTime 162 = .ok (.iload 6, 2) := by decide +kernel
theorem dX9_findTime_164 : decode cX9_findTime 164 = .ok (.invokevirtual 174, 3) := by decide +kernel
theorem dX9_findTime_167 : decode cX9_findTime 167 = .ok (.imul, 1) := by decide +kernel
theorem dX9_findTime_168 : decode cX9_findTime 168 = .ok (.i2l, 1) := by decide +kernel
theorem dX9_findTime_169 : decode cX9_findTime 169 = .ok (.ladd, 1) := by decide +kernel
theorem dX9_findTime_170 : decode cX9_findTime 170 = .ok (.lastore, 1) := by decide +kernel
theorem dX9_findTime_171 : decode cX9_findTime 171 = .ok (.iinc 6 1, 3) := by decide +kernel
theorem dX9_findTime_174 : decode cX9_findTime 174 = .ok (.goto (-112), 3) := by decide +kernel
theorem dX9_findTime_177 : decode cX9_findTime 177 = .ok (.iinc 5 1, 3) := by decide +kernel
theorem dX9_findTime_180 : decode cX9_findTime 180 = .ok (.goto (-130), 3) := by decide +kernel
theorem dX9_findTime_183 : decode cX9_findTime 183 = .ok (.aload_n 0, 1) := by decide +kernel
theorem dX9_findTime_184 : decode cX9_findTime 184 = .ok (.aload_n 0, 1) := by decide +kernel
theorem dX9_findTime_185 : decode cX9_findTime 185 = .ok (.iconst (-1), 1) := by decide +kernel
theorem dX9_findTime_186 : decode cX9_findTime 186 = .ok (.invokevirtual 258, 3) := by decide +kernel
theorem dX9_findTime_189 : decode cX9_findTime 189 = .ok (.putfield 252, 3) := by decide +kernel
theorem dX9_findTime_192 : decode cX9_findTime 192 = .ok (.aload_n 0, 1) := by decide +kernel
theorem dX9_findTime_193 : decode cX9_findTime 193 = .ok (.aload_n 0, 1) := by decide +kernel
theorem dX9_findTime_194 : decode cX9_findTime 194 = .ok (.aload_n 0, 1) := by decide +kernel
theorem dX9_findTime_195 : decode cX9_findTime 195 = .ok (.iload_n 1, 1) := by decide +kernel
theorem dX9_findTime_196 : decode cX9_findTime 196 = .ok (.invokevirtual 262, 3) := by decide +kernel
theorem dX9_findTime_199 : decode cX9_findTime 199 = .ok (.invokevirtual 258, 3) := by decide +kernel
theorem dX9_findTime_202 : decode cX9_findTime 202 = .ok (.putfield 248, 3) := by decide +kernel
theorem dX9_findTime_205 : decode cX9_findTime 205 = .ok (.iconst 1, 1) := by decide +kernel
theorem dX9_findTime_206 : decode cX9_findTime 206 = .ok (.ireturn, 1) := by decide +kernel
theorem dX9_share_0 : decode cX9_share 0 = .ok (.aload_n 0, 1) := by decide +kernel
theorem dX9_share_1 : decode cX9_share 1 = .ok (.iload_n 2, 1) := by decide +kernel
theorem dX9_share_2 : decode cX9_share 2 = .ok (.invokevirtual 233, 3) := by decide +kernel
theorem dX9_share_5 : decode cX9_share 5 = .ok (.istore 4, 2) := by decide +kernel
theorem dX9_share_7 : decode cX9_share 7 = .ok (.iload_n 3, 1) := by decide +kernel
theorem dX9_share_8 : decode cX9_share 8 = .ok (.iload_n 2, 1) := by decide +kernel
theorem dX9_share_9 : decode cX9_share 9 = .ok (.if_icmp .eq 17, 3) := by decide +kernel
theorem dX9_share_12 : decode cX9_share 12 = .ok (.iload 4, 2) := by decide +kernel
theorem dX9_share_14 : decode cX9_share 14 = .ok (.iload_n 3, 1) := by decide +kernel
theorem dX9_share_15 : decode cX9_share 15 = .ok (.invokestatic 226, 3) := by decide +kernel
theorem dX9_share_18 : decode cX9_share 18 = .ok (.ifCond .eq 8, 3) := by decide +kernel
theorem dX9_share_21 : decode cX9_share 21 = .ok (.iload_n 1, 1) := by decide +kernel
theorem dX9_share_22 : decode cX9_share 22 = .ok (.iload_n 2, 1) := by decide +kernel
theorem dX9_share_23 : decode cX9_share 23 = .ok (.if_icmp .ne 5, 3) := by decide +kernel
theorem dX9_share_26 : decode cX9_share 26 = .ok (.lconst 0, 1) := by decide +kernel
theorem dX9_share_27 : decode cX9_share 27 = .ok (.lreturn, 1) := by decide +kernel
theorem dX9_share_28 : decode cX9_share 28 = .ok (.aload_n 0, 1) := by decide +kernel
theorem dX9_share_29 : decode cX9_share 29 = .ok (.iload 4, 2) := by decide +kernel
theorem dX9_share_31 : decode cX9_share 31 = .ok (.iconst 1, 1) := by decide +kernel
theorem dX9_share_32 : decode cX9_share 32 = .ok (.iload_n 2, 1) := by decide +kernel
theorem dX9_share_33 : decode cX9_share 33 = .ok (.ishl, 1) := by decide +kernel
theorem dX9_share_34 : decode cX9_share 34 = .ok (.iconst (-1), 1) := by decide +kernel
theorem dX9_share_35 : decode cX9_share 35 = .ok (.ixor, 1) := by decide +kernel
theorem dX9_share_36 : decode cX9_share 36 = .ok (.iand, 1) := by decide +kernel
theorem dX9_share_37 : decode cX9_share 37 = .ok (.invokevirtual 255, 3) := by decide +kernel
theorem dX9_share_40 : decode cX9_share 40 = .ok (.aload_n 0, 1) := by decide +kernel
theorem dX9_share_41 : decode cX9_share 41 = .ok (.getfield 64, 3) := by decide +kernel
theorem dX9_share_44 : decode cX9_share 44 = .ok (.aload_n 0, 1) := by decide +kernel
theorem dX9_share_45 : decode cX9_share 45 = .ok (.iload_n 3, 1) := by decide +kernel
theorem dX9_share_46 : decode cX9_share 46 = .ok (.invokevirtual 262, 3) := by decide +kernel
theorem dX9_share_49 : decode cX9_share 49 = .ok (.lconst 1, 1) := by decide +kernel
theorem dX9_share_50 : decode cX9_share 50 = .ok (.lastore, 1) := by decide +kernel
theorem dX9_share_51 : decode cX9_share 51 = .ok (.aload_n 0, 1) := by decide +kernel
theorem dX9_share_52 : decode cX9_share 52 = .ok (.aload_n 0, 1) := by decide +kernel
theorem dX9_share_53 : decode cX9_share 53 = .ok (.iload_n 1, 1) := by decide +kernel
theorem dX9_share_54 : decode cX9_share 54 = .ok (.invokevirtual 262, 3) := by decide +kernel
theorem dX9_share_57 : decode cX9_share 57 = .ok (.invokevirtual 258, 3) := by decide +kernel
theorem dX9_share_60 : decode cX9_share 60 = .ok (.lreturn, 1) := by decide +kernel
theorem dX9_findDown_0 : decode cX9_findDown 0 = .ok (.aload_n 0, 1) := by decide +kernel
theorem dX9_findDown_1 : decode cX9_findDown 1 = .ok (.aload_n 0, 1) := by decide +kernel
theorem dX9_findDown_2 : decode cX9_findDown 2 = .ok (.iload_n 1, 1) := by decide +kernel
theorem dX9_findDown_3 : decode cX9_findDown 3 = .ok (.invokevirtual 233, 3) := by decide +kernel
theorem dX9_findDown_6 : decode cX9_findDown 6 = .ok (.iconst 1, 1) := by decide +kernel
theorem dX9_findDown_7 : decode cX9_findDown 7 = .ok (.iload_n 1, 1) := by decide +kernel
theorem dX9_findDown_8 : decode cX9_findDown 8 = .ok (.ishl, 1) := by decide +kernel
theorem dX9_findDown_9 : decode cX9_findDown 9 = .ok (.iconst (-1), 1) := by decide +kernel
theorem dX9_findDown_10 : decode cX9_findDown 10 = .ok (.ixor, 1) := by decide +kernel
theorem dX9_findDown_11 : decode cX9_findDown 11 = .ok (.iand, 1) := by decide +kernel
theorem dX9_findDown_12 : decode cX9_findDown 12 = .ok (.invokevirtual 255, 3) := by decide +kernel
theorem dX9_findDown_15 : decode cX9_findDown 15 = .ok (.aload_n 0, 1) := by decide +kernel
theorem dX9_findDown_16 : decode cX9_findDown 16 = .ok (.aload_n 0, 1) := by decide +kernel
theorem dX9_findDown_17 : decode cX9_findDown 17 = .ok (.iconst (-1), 1) := by decide +kernel
theorem dX9_findDown_18 : decode cX9_findDown 18 = .ok (.invokevirtual 258, 3) := by decide +kernel
theorem dX9_findDown_21 : decode cX9_findDown 21 = .ok (.putfield 252, 3) := by decide +kernel
theorem dX9_findDown_24 : decode cX9_findDown 24 = .ok (.return_, 1) := by decide +kernel
theorem dX9_common_0 : decode cX9_common 0 = .ok (.lload_n 0, 1) := by decide +kernel
theorem dX9_common_1 : decode cX9_common 1 = .ok (.lconst 0, 1) := by decide +kernel
theorem dX9_common_2 : decode cX9_common 2 = .ok (.lcmp, 1) := by decide +kernel
theorem dX9_common_3 : decode cX9_common 3 = .ok (.ifCond .ge 8, 3) := by decide +kernel
theorem dX9_common_6 : decode cX9_common 6 = .ok (.lload_n 0, 1) := by decide +kernel
theorem dX9_common_7 : decode cX9_common 7 = .ok (.lneg, 1) := by decide +kernel
theorem dX9_common_8 : decode cX9_common 8 = .ok (.goto 4, 3) := by decide +kernel
theorem dX9_common_11 : decode cX9_common 11 = .ok (.lload_n 0, 1) := by decide +kernel
theorem dX9_common_12 : decode cX9_common 12 = .ok (.lstore 4, 2) := by decide +kernel
theorem dX9_common_14 : decode cX9_common 14 = .ok (.lload_n 2, 1) := by decide +kernel
theorem dX9_common_15 : decode cX9_common 15 = .ok (.lstore 6, 2) := by decide +kernel
theorem dX9_common_17 : decode cX9_common 17 = .ok (.lload 6, 2) := by decide +kernel
theorem dX9_common_19 : decode cX9_common 19 = .ok (.lconst 0, 1) := by decide +kernel
theorem dX9_common_20 : decode cX9_common 20 = .ok (.lcmp, 1) := by decide +kernel
theorem dX9_common_21 : decode cX9_common 21 = .ok (.ifCond .eq 21, 3) := by decide +kernel
theorem dX9_common_24 : decode cX9_common 24 = .ok (.lload 4, 2) := by decide +kernel
theorem dX9_common_26 : decode cX9_common 26 = .ok (.lload 6, 2) := by decide +kernel
theorem dX9_common_28 : decode cX9_common 28 = .ok (.lrem, 1) := by decide +kernel
theorem dX9_common_29 : decode cX9_common 29 = .ok (.lstore 8, 2) := by decide +kernel
theorem dX9_common_31 : decode cX9_common 31 = .ok (.lload 6, 2) := by decide +kernel
theorem dX9_common_33 : decode cX9_common 33 = .ok (.lstore 4, 2) := by decide +kernel
theorem dX9_common_35 : decode cX9_common 35 = .ok (.lload 8, 2) := by decide +kernel
theorem dX9_common_37 : decode cX9_common 37 = .ok (.lstore 6, 2) := by decide +kernel
theorem dX9_common_39 : decode cX9_common 39 = .ok (.goto (-22), 3) := by decide +kernel
theorem dX9_common_42 : decode cX9_common 42 = .ok (.lload 4, 2) := by decide +kernel
theorem dX9_common_44 : decode cX9_common 44 = .ok (.lreturn, 1) := by decide +kernel
theorem dX9_partOf_0 : decode cX9_partOf 0 = .ok (.iload 4, 2) := by decide +kernel
theorem dX9_partOf_2 : decode cX9_partOf 2 = .ok (.ifCond .ne 7, 3) := by decide +kernel
theorem dX9_partOf_5 : decode cX9_partOf 5 = .ok (.lload_n 0, 1) := by decide +kernel
theorem dX9_partOf_6 : decode cX9_partOf 6 = .ok (.goto 4, 3) := by decide +kernel
theorem dX9_partOf_9 : decode cX9_partOf 9 = .ok (.lload_n 2, 1) := by decide +kernel
theorem dX9_partOf_10 : decode cX9_partOf 10 = .ok (.lload_n 0, 1) := by decide +kernel
theorem dX9_partOf_11 : decode cX9_partOf 11 = .ok (.lload_n 2, 1) := by decide +kernel
theorem dX9_partOf_12 : decode cX9_partOf 12 = .ok (.invokestatic 265, 3) := by decide +kernel
theorem dX9_partOf_15 : decode cX9_partOf 15 = .ok (.ldiv, 1) := by decide +kernel
theorem dX9_partOf_16 : decode cX9_partOf 16 = .ok (.lreturn, 1) := by decide +kernel
theorem dX9_notTwo_0 : decode cX9_notTwo 0 = .ok (.aload_n 0, 1) := by decide +kernel
theorem dX9_notTwo_1 : decode cX9_notTwo 1 = .ok (.iload_n 1, 1) := by decide +kernel
theorem dX9_notTwo_2 : decode cX9_notTwo 2 = .ok (.invokevirtual 141, 3) := by decide +kernel
theorem dX9_notTwo_5 : decode cX9_notTwo 5 = .ok (.ifCond .eq 11, 3) := by decide +kernel
theorem dX9_notTwo_8 : decode cX9_notTwo 8 = .ok (.aload_n 0, 1) := by decide +kernel
theorem dX9_notTwo_9 : decode cX9_notTwo 9 = .ok (.iload_n 2, 1) := by decide +kernel
theorem dX9_notTwo_10 : decode cX9_notTwo 10 = .ok (.invokevirtual 141, 3) := by decide +kernel
theorem dX9_notTwo_13 : decode cX9_notTwo 13 = .ok (.ifCond .ne 7, 3) := by decide +kernel
theorem dX9_notTwo_16 : decode cX9_notTwo 16 = .ok (.iconst (-1), 1) := by decide +kernel
theorem dX9_notTwo_17 : decode cX9_notTwo 17 = .ok (.goto 19, 3) := by decide +kernel
theorem dX9_notTwo_20 : decode cX9_notTwo 20 = .ok (.iload_n 3, 1) := by decide +kernel
theorem dX9_notTwo_21 : decode cX9_notTwo 21 = .ok (.i2l, 1) := by decide +kernel
theorem dX9_notTwo_22 : decode cX9_notTwo 22 = .ok (.lconst 0, 1) := by decide +kernel
theorem dX9_notTwo_23 : decode cX9_notTwo 23 = .ok (.lconst 1, 1) := by decide +kernel
theorem dX9_notTwo_24 : decode cX9_notTwo 24 = .ok (.invokestatic 116, 3) := by decide +kernel
theorem dX9_notTwo_27 : decode cX9_notTwo 27 = .ok (.ifCond .ne 8, 3) := by decide +kernel
theorem dX9_notTwo_30 : decode cX9_notTwo 30 = .ok (.bipush (-2), 2) := by decide +kernel
theorem dX9_notTwo_32 : decode cX9_notTwo 32 = .ok (.goto 4, 3) := by decide +kernel
theorem dX9_notTwo_35 : decode cX9_notTwo 35 = .ok (.iconst 0, 1) := by decide +kernel
theorem dX9_notTwo_36 : decode cX9_notTwo 36 = .ok (.ireturn, 1) := by decide +kernel
theorem dX9_timed_0 : decode cX9_timed 0 = .ok (.aload_n 0, 1) := by decide +kernel
theorem dX9_timed_1 : decode cX9_timed 1 = .ok (.iload_n 1, 1) := by decide +kernel
theorem dX9_timed_2 : decode cX9_timed 2 = .ok (.iload_n 2, 1) := by decide +kernel
theorem dX9_timed_3 : decode cX9_timed 3 = .ok (.iload_n 3, 1) := by decide +kernel
theorem dX9_timed_4 : decode cX9_timed 4 = .ok (.invokevirtual 269, 3) := by decide +kernel
theorem dX9_timed_7 : decode cX9_timed 7 = .ok (.istore 5, 2) := by decide +kernel
theorem dX9_timed_9 : decode cX9_timed 9 = .ok (.iload 5, 2) := by decide +kernel
theorem dX9_timed_11 : decode cX9_timed 11 = .ok (.ifCond .eq 10, 3) := by decide +kernel
theorem dX9_timed_14 : decode cX9_timed 14 = .ok (.aload_n 0, 1) := by decide +kernel
theorem dX9_timed_15 : decode cX9_timed 15 = .ok (.iload 5, 2) := by decide +kernel
theorem dX9_timed_17 : decode cX9_timed 17 = .ok (.invokevirtual 272, 3) := by decide +kernel
theorem dX9_timed_20 : decode cX9_timed 20 = .ok (.lreturn, 1) := by decide +kernel
theorem dX9_timed_21 : decode cX9_timed 21 = .ok (.aload_n 0, 1) := by decide +kernel
theorem dX9_timed_22 : decode cX9_timed 22 = .ok (.invokevirtual 230, 3) := by decide +kernel
theorem dX9_timed_25 : decode cX9_timed 25 = .ok (.aload_n 0, 1) := by decide +kernel
theorem dX9_timed_26 : decode cX9_timed 26 = .ok (.iload_n 1, 1) := by decide +kernel
theorem dX9_timed_27 : decode cX9_timed 27 = .ok (.iload_n 2, 1) := by decide +kernel
theorem dX9_timed_28 : decode cX9_timed 28 = .ok (.iload 4, 2) := by decide +kernel
theorem dX9_timed_30 : decode cX9_timed 30 = .ok (.invokevirtual 275, 3) := by decide +kernel
theorem dX9_timed_33 : decode cX9_timed 33 = .ok (.ifCond .eq 18, 3) := by decide +kernel
theorem dX9_timed_36 : decode cX9_timed 36 = .ok (.aload_n 0, 1) := by decide +kernel
theorem dX9_timed_37 : decode cX9_timed 37 = .ok (.getfield 248, 3) := by decide +kernel
theorem dX9_timed_40 : decode cX9_timed 40 = .ok (.aload_n 0, 1) := by decide +kernel
theorem dX9_timed_41 : decode cX9_timed 41 = .ok (.getfield 252, 3) := by decide +kernel
theorem dX9_timed_44 : decode cX9_timed 44 = .ok (.iload_n 3, 1) := by decide +kernel
theorem dX9_timed_45 : decode cX9_timed 45 = .ok (.invokestatic 279, 3) := by decide +kernel
theorem dX9_timed_48 : decode cX9_timed 48 = .ok (.goto 9, 3) := by decide +kernel
theorem dX9_timed_51 : decode cX9_timed 51 = .ok (.aload_n 0, 1) := by decide +kernel
theorem dX9_timed_52 : decode cX9_timed 52 = .ok (.bipush (-3), 2) := by decide +kernel
theorem dX9_timed_54 : decode cX9_timed 54 = .ok (.invokevirtual 272, 3) := by decide +kernel
theorem dX9_timed_57 : decode cX9_timed 57 = .ok (.lreturn, 1) := by decide +kernel
theorem dX9_time_0 : decode cX9_time 0 = .ok (.aload_n 0, 1) := by decide +kernel
theorem dX9_time_1 : decode cX9_time 1 = .ok (.iload_n 1, 1) := by decide +kernel
theorem dX9_time_2 : decode cX9_time 2 = .ok (.iload_n 2, 1) := by decide +kernel
theorem dX9_time_3 : decode cX9_time 3 = .ok (.iload_n 3, 1) := by decide +kernel
theorem dX9_time_4 : decode cX9_time 4 = .ok (.iconst 0, 1) := by decide +kernel
theorem dX9_time_5 : decode cX9_time 5 = .ok (.invokevirtual 283, 3) := by decide +kernel
theorem dX9_time_8 : decode cX9_time 8 = .ok (.lreturn, 1) := by decide +kernel
theorem dX9_steps_0 : decode cX9_steps 0 = .ok (.aload_n 0, 1) := by decide +kernel
theorem dX9_steps_1 : decode cX9_steps 1 = .ok (.iload_n 1, 1) := by decide +kernel
theorem dX9_steps_2 : decode cX9_steps 2 = .ok (.iload_n 2, 1) := by decide +kernel
theorem dX9_steps_3 : decode cX9_steps 3 = .ok (.iload_n 3, 1) := by decide +kernel
theorem dX9_steps_4 : decode cX9_steps 4 = .ok (.iconst 1, 1) := by decide +kernel
theorem dX9_steps_5 : decode cX9_steps 5 = .ok (.invokevirtual 283, 3) := by decide +kernel
theorem dX9_steps_8 : decode cX9_steps 8 = .ok (.lreturn, 1) := by decide +kernel
theorem dX9_findCommute_0 : decode cX9_findCommute 0 = .ok (.aload_n 0, 1) := by decide +kernel
theorem dX9_findCommute_1 : decode cX9_findCommute 1 = .ok (.iload_n 1, 1) := by decide +kernel
theorem dX9_findCommute_2 : decode cX9_findCommute 2 = .ok (.iload_n 2, 1) := by decide +kernel
theorem dX9_findCommute_3 : decode cX9_findCommute 3 = .ok (.iconst 0, 1) := by decide +kernel
theorem dX9_findCommute_4 : decode cX9_findCommute 4 = .ok (.invokevirtual 275, 3) := by decide +kernel
theorem dX9_findCommute_7 : decode cX9_findCommute 7 = .ok (.ifCond .ne 5, 3) := by decide +kernel
theorem dX9_findCommute_10 : decode cX9_findCommute 10 = .ok (.iconst 0, 1) := by decide +kernel
theorem dX9_findCommute_11 : decode cX9_findCommute 11 = .ok (.ireturn, 1) := by decide +kernel
theorem dX9_findCommute_12 : decode cX9_findCommute 12 = .ok (.aload_n 0, 1) := by decide +kernel
theorem dX9_findCommute_13 : decode cX9_findCommute 13 = .ok (.aload_n 0, 1) := by decide +kernel
theorem dX9_findCommute_14 : decode cX9_findCommute 14 = .ok (.getfield 248, 3) := by decide +kernel
theorem dX9_findCommute_17 : decode cX9_findCommute 17 = .ok (.putfield 287, 3) := by decide +kernel
theorem dX9_findCommute_20 : decode cX9_findCommute 20 = .ok (.aload_n 0, 1) := by decide +kernel
theorem dX9_findCommute_21 : decode cX9_findCommute 21 = .ok (.aload_n 0, 1) := by decide +kernel
theorem dX9_findCommute_22 : decode cX9_findCommute 22 = .ok (.getfield 252, 3) := by decide +kernel
theorem dX9_findCommute_25 : decode cX9_findCommute 25 = .ok (.putfield 290, 3) := by decide +kernel
theorem dX9_findCommute_28 : decode cX9_findCommute 28 = .ok (.aload_n 0, 1) := by decide +kernel
theorem dX9_findCommute_29 : decode cX9_findCommute 29 = .ok (.iload_n 2, 1) := by decide +kernel
theorem dX9_findCommute_30 : decode cX9_findCommute 30 = .ok (.iload_n 1, 1) := by decide +kernel
theorem dX9_findCommute_31 : decode cX9_findCommute 31 = .ok (.iconst 0, 1) := by decide +kernel
theorem dX9_findCommute_32 : decode cX9_findCommute 32 = .ok (.invokevirtual 275, 3) := by decide +kernel
theorem dX9_findCommute_35 : decode cX9_findCommute 35 = .ok (.pop, 1) := by decide +kernel
theorem dX9_findCommute_36 : decode cX9_findCommute 36 = .ok (.aload_n 0, 1) := by decide +kernel
theorem dX9_findCommute_37 : decode cX9_findCommute 37 = .ok (.dup, 1) := by decide +kernel
theorem dX9_findCommute_38 : decode cX9_findCommute 38 = .ok (.getfield 287, 3) := by decide +kernel
theorem dX9_findCommute_41 : decode cX9_findCommute 41 = .ok (.aload_n 0, 1) := by decide +kernel
theorem dX9_findCommute_42 : decode cX9_findCommute 42 = .ok (.getfield 248, 3) := by decide +kernel
theorem dX9_findCommute_45 : decode cX9_findCommute 45 = .ok (.ladd, 1) := by decide +kernel
theorem dX9_findCommute_46 : decode cX9_findCommute 46 = .ok (.putfield 287, 3) := by decide +kernel
theorem dX9_findCommute_49 : decode cX9_findCommute 49 = .ok (.iconst 1, 1) := by decide +kernel
theorem dX9_findCommute_50 : decode cX9_findCommute 50 = .ok (.ireturn, 1) := by decide +kernel
theorem dX9_commute_0 : decode cX9_commute 0 = .ok (.aload_n 0, 1) := by decide +kernel
theorem dX9_commute_1 : decode cX9_commute 1 = .ok (.iload_n 1, 1) := by decide +kernel
theorem dX9_commute_2 : decode cX9_commute 2 = .ok (.iload_n 2, 1) := by decide +kernel
theorem dX9_commute_3 : decode cX9_commute 3 = .ok (.iload_n 3, 1) := by decide +kernel
theorem dX9_commute_4 : decode cX9_commute 4 = .ok (.invokevirtual 269, 3) := by decide +kernel
theorem dX9_commute_7 : decode cX9_commute 7 = .ok (.istore 4, 2) := by decide +kernel
theorem dX9_commute_9 : decode cX9_commute 9 = .ok (.iload 4, 2) := by decide +kernel
theorem dX9_commute_11 : decode cX9_commute 11 = .ok (.ifCond .eq 10, 3) := by decide +kernel
theorem dX9_commute_14 : decode cX9_commute 14 = .ok (.aload_n 0, 1) := by decide +kernel
theorem dX9_commute_15 : decode cX9_commute 15 = .ok (.iload 4, 2) := by decide +kernel
theorem dX9_commute_17 : decode cX9_commute 17 = .ok (.invokevirtual 272, 3) := by decide +kernel
theorem dX9_commute_20 : decode cX9_commute 20 = .ok (.lreturn, 1) := by decide +kernel
theorem dX9_commute_21 : decode cX9_commute 21 = .ok (.aload_n 0, 1) := by decide +kernel
theorem dX9_commute_22 : decode cX9_commute 22 = .ok (.invokevirtual 230, 3) := by decide +kernel
theorem dX9_commute_25 : decode cX9_commute 25 = .ok (.aload_n 0, 1) := by decide +kernel
theorem dX9_commute_26 : decode cX9_commute 26 = .ok (.iload_n 1, 1) := by decide +kernel
theorem dX9_commute_27 : decode cX9_commute 27 = .ok (.iload_n 2, 1) := by decide +kernel
theorem dX9_commute_28 : decode cX9_commute 28 = .ok (.invokevirtual 293, 3) := by decide +kernel
theorem dX9_commute_31 : decode cX9_commute 31 = .ok (.ifCond .eq 18, 3) := by decide +kernel
theorem dX9_commute_34 : decode cX9_commute 34 = .ok (.aload_n 0, 1) := by decide +kernel
theorem dX9_commute_35 : decode cX9_commute 35 = .ok (.getfield 287, 3) := by decide +kernel
theorem dX9_commute_38 : decode cX9_commute 38 = .ok (.aload_n 0, 1) := by decide +kernel
theorem dX9_commute_39 : decode cX9_commute 39 = .ok (.getfield 290, 3) := by decide +kernel
theorem dX9_commute_42 : decode cX9_commute 42 = .ok (.iload_n 3, 1) := by decide +kernel
theorem dX9_commute_43 : decode cX9_commute 43 = .ok (.invokestatic 279, 3) := by decide +kernel
theorem dX9_commute_46 : decode cX9_commute 46 = .ok (.goto 9, 3) := by decide +kernel
theorem dX9_commute_49 : decode cX9_commute 49 = .ok (.aload_n 0, 1) := by decide +kernel
theorem dX9_commute_50 : decode cX9_commute 50 = .ok (.bipush (-3), 2) := by decide +kernel
theorem dX9_commute_52 : decode cX9_commute 52 = .ok (.invokevirtual 272, 3) := by decide +kernel
theorem dX9_commute_55 : decode cX9_commute 55 = .ok (.lreturn, 1) := by decide +kernel
theorem dX9_visits_0 : decode cX9_visits 0 = .ok (.aload_n 0, 1) := by decide +kernel
theorem dX9_visits_1 : decode cX9_visits 1 = .ok (.iload_n 1, 1) := by decide +kernel
theorem dX9_visits_2 : decode cX9_visits 2 = .ok (.invokevirtual 141, 3) := by decide +kernel
theorem dX9_visits_5 : decode cX9_visits 5 = .ok (.ifCond .eq 24, 3) := by decide +kernel
theorem dX9_visits_8 : decode cX9_visits 8 = .ok (.aload_n 0, 1) := by decide +kernel
theorem dX9_visits_9 : decode cX9_visits 9 = .ok (.iload_n 2, 1) := by decide +kernel
theorem dX9_visits_10 : decode cX9_visits 10 = .ok (.invokevirtual 141, 3) := by decide +kernel
theorem dX9_visits_13 : decode cX9_visits 13 = .ok (.ifCond .eq 16, 3) := by decide +kernel
theorem dX9_visits_16 : decode cX9_visits 16 = .ok (.aload_n 0, 1) := by decide +kernel
theorem dX9_visits_17 : decode cX9_visits 17 = .ok (.iload_n 3, 1) := by decide +kernel
theorem dX9_visits_18 : decode cX9_visits 18 = .ok (.invokevirtual 141, 3) := by decide +kernel
theorem dX9_visits_21 : decode cX9_visits 21 = .ok (.ifCond .eq 8, 3) := by decide +kernel
theorem dX9_visits_24 : decode cX9_visits 24 = .ok (.iload_n 3, 1) := by decide +kernel
theorem dX9_visits_25 : decode cX9_visits 25 = .ok (.iload_n 2, 1) := by decide +kernel
theorem dX9_visits_26 : decode cX9_visits 26 = .ok (.if_icmp .ne 9, 3) := by decide +kernel
theorem dX9_visits_29 : decode cX9_visits 29 = .ok (.aload_n 0, 1) := by decide +kernel
theorem dX9_visits_30 : decode cX9_visits 30 = .ok (.iconst (-1), 1) := by decide +kernel
theorem dX9_visits_31 : decode cX9_visits 31 = .ok (.invokevirtual 272, 3) := by decide +kernel
theorem dX9_visits_34 : decode cX9_visits 34 = .ok (.lreturn, 1) := by decide +kernel
theorem dX9_visits_35 : decode cX9_visits 35 = .ok (.iload 4, 2) := by decide +kernel
theorem dX9_visits_37 : decode cX9_visits 37 = .ok (.i2l, 1) := by decide +kernel
theorem dX9_visits_38 : decode cX9_visits 38 = .ok (.lconst 0, 1) := by decide +kernel
theorem dX9_visits_39 : decode cX9_visits 39 = .ok (.lconst 1, 1) := by decide +kernel
theorem dX9_visits_40 : decode cX9_visits 40 = .ok (.invokestatic 116, 3) := by decide +kernel
theorem dX9_visits_43 : decode cX9_visits 43 = .ok (.ifCond .ne 10, 3) := by decide +kernel
theorem dX9_visits_46 : decode cX9_visits 46 = .ok (.aload_n 0, 1) := by decide +kernel
theorem dX9_visits_47 : decode cX9_visits 47 = .ok (.bipush (-2), 2) := by decide +kernel
theorem dX9_visits_49 : decode cX9_visits 49 = .ok (.invokevirtual 272, 3) := by decide +kernel
theorem dX9_visits_52 : decode cX9_visits 52 = .ok (.lreturn, 1) := by decide +kernel
theorem dX9_visits_53 : decode cX9_visits 53 = .ok (.aload_n 0, 1) := by decide +kernel
theorem dX9_visits_54 : decode cX9_visits 54 = .ok (.invokevirtual 230, 3) := by decide +kernel
theorem dX9_visits_57 : decode cX9_visits 57 = .ok (.aload_n 0, 1) := by decide +kernel
theorem dX9_visits_58 : decode cX9_visits 58 = .ok (.iload_n 1, 1) := by decide +kernel
theorem dX9_visits_59 : decode cX9_visits 59 = .ok (.invokevirtual 233, 3) := by decide +kernel
theorem dX9_visits_62 : decode cX9_visits 62 = .ok (.iload_n 2, 1) := by decide +kernel
theorem dX9_visits_63 : decode cX9_visits 63 = .ok (.invokestatic 226, 3) := by decide +kernel
theorem dX9_visits_66 : decode cX9_visits 66 = .ok (.ifCond .ne 10, 3) := by decide +kernel
theorem dX9_visits_69 : decode cX9_visits 69 = .ok (.aload_n 0, 1) := by decide +kernel
theorem dX9_visits_70 : decode cX9_visits 70 = .ok (.bipush (-3), 2) := by decide +kernel
theorem dX9_visits_72 : decode cX9_visits 72 = .ok (.invokevirtual 272, 3) := by decide +kernel
theorem dX9_visits_75 : decode cX9_visits 75 = .ok (.lreturn, 1) := by decide +kernel
theorem dX9_visits_76 : decode cX9_visits 76 = .ok (.aload_n 0, 1) := by decide +kernel
theorem dX9_visits_77 : decode cX9_visits 77 = .ok (.iload_n 2, 1) := by decide +kernel
theorem dX9_visits_78 : decode cX9_visits 78 = .ok (.invokevirtual 296, 3) := by decide +kernel
theorem dX9_visits_81 : decode cX9_visits 81 = .ok (.aload_n 0, 1) := by decide +kernel
theorem dX9_visits_82 : decode cX9_visits 82 = .ok (.iload_n 1, 1) := by decide +kernel
theorem dX9_visits_83 : decode cX9_visits 83 = .ok (.iload_n 2, 1) := by decide +kernel
theorem dX9_visits_84 : decode cX9_visits 84 = .ok (.iload_n 3, 1) := by decide +kernel
theorem dX9_visits_85 : decode cX9_visits 85 = .ok (.invokevirtual 299, 3) := by decide +kernel
theorem dX9_visits_88 : decode cX9_visits 88 = .ok (.aload_n 0, 1) := by decide +kernel
theorem dX9_visits_89 : decode cX9_visits 89 = .ok (.iload_n 3, 1) := by decide +kernel
theorem dX9_visits_90 : decode cX9_visits 90 = .ok (.invokevirtual 239, 3) := by decide +kernel
theorem dX9_visits_93 : decode cX9_visits 93 = .ok (.i2l, 1) := by decide +kernel
theorem dX9_visits_94 : decode cX9_visits 94 = .ok (.lmul, 1) := by decide +kernel
theorem dX9_visits_95 : decode cX9_visits 95 = .ok (.aload_n 0, 1) := by decide +kernel
theorem dX9_visits_96 : decode cX9_visits 96 = .ok (.getfield 252, 3) := by decide +kernel
theorem dX9_visits_99 : decode cX9_visits 99 = .ok (.iload 4, 2) := by decide +kernel
theorem dX9_visits_101 : decode cX9_visits 101 = .ok (.invokestatic 279, 3) := by decide +kernel
theorem dX9_visits_104 : decode cX9_visits 104 = .ok (.lreturn, 1) := by decide +kernel
theorem dX9_findResistance_0 : decode cX9_findResistance 0 = .ok (.aload_n 0, 1) := by decide +kernel
theorem dX9_findResistance_1 : decode cX9_findResistance 1 = .ok (.lconst 0, 1) := by decide +kernel
theorem dX9_findResistance_2 : decode cX9_findResistance 2 = .ok (.putfield 248, 3) := by decide +kernel
theorem dX9_findResistance_5 : decode cX9_findResistance 5 = .ok (.aload_n 0, 1) := by decide +kernel
theorem dX9_findResistance_6 : decode cX9_findResistance 6 = .ok (.lconst 1, 1) := by decide +kernel
theorem dX9_findResistance_7 : decode cX9_findResistance 7 = .ok (.putfield 252, 3) := by decide +kernel
theorem dX9_findResistance_10 : decode cX9_findResistance 10 = .ok (.iload_n 1, 1) := by decide +kernel
theorem dX9_findResistance_11 : decode cX9_findResistance 11 = .ok (.iload_n 2, 1) := by decide +kernel
theorem dX9_findResistance_12 : decode cX9_findResistance 12 = .ok (.if_icmp .ne 5, 3) := by decide +kernel
theorem dX9_findResistance_15 : decode cX9_findResistance 15 = .ok (.iconst 1, 1) := by decide +kernel
theorem dX9_findResistance_16 : decode cX9_findResistance 16 = .ok (.ireturn, 1) := by decide +kernel
theorem dX9_findResistance_17 : decode cX9_findResistance 17 = .ok (.aload_n 0, 1) := by decide +kernel
theorem dX9_findResistance_18 : decode cX9_findResistance 18 = .ok (.iload_n 1, 1) := by decide +kernel
theorem dX9_findResistance_19 : decode cX9_findResistance 19 = .ok (.invokevirtual 233, 3) := by decide +kernel
theorem dX9_findResistance_22 : decode cX9_findResistance 22 = .ok (.iload_n 2, 1) := by decide +kernel
theorem dX9_findResistance_23 : decode cX9_findResistance 23 = .ok (.invokestatic 226, 3) := by decide +kernel
theorem dX9_findResistance_26 : decode cX9_findResistance 26 = .ok (.ifCond .ne 5, 3) := by decide +kernel
theorem dX9_findResistance_29 : decode cX9_findResistance 29 = .ok (.iconst 0, 1) := by decide +kernel
theorem dX9_findResistance_30 : decode cX9_findResistance 30 = .ok (.ireturn, 1) := by decide +kernel
theorem dX9_findResistance_31 : decode cX9_findResistance 31 = .ok (.aload_n 0, 1) := by decide +kernel
theorem dX9_findResistance_32 : decode cX9_findResistance 32 = .ok (.iload_n 2, 1) := by decide +kernel
theorem dX9_findResistance_33 : decode cX9_findResistance 33 = .ok (.invokevirtual 296, 3) := by decide +kernel
theorem dX9_findResistance_36 : decode cX9_findResistance 36 = .ok (.aload_n 0, 1) := by decide +kernel
theorem dX9_findResistance_37 : decode cX9_findResistance 37 = .ok (.aload_n 0, 1) := by decide +kernel
theorem dX9_findResistance_38 : decode cX9_findResistance 38 = .ok (.iload_n 1, 1) := by decide +kernel
theorem dX9_findResistance_39 : decode cX9_findResistance 39 = .ok (.iload_n 2, 1) := by decide +kernel
theorem dX9_findResistance_40 : decode cX9_findResistance 40 = .ok (.iload_n 1, 1) := by decide +kernel
theorem dX9_findResistance_41 : decode cX9_findResistance 41 = .ok (.invokevirtual 299, 3) := by decide +kernel
theorem dX9_findResistance_44 : decode cX9_findResistance 44 = .ok (.putfield 248, 3) := by decide +kernel
theorem dX9_findResistance_47 : decode cX9_findResistance 47 = .ok (.iconst 1, 1) := by decide +kernel
theorem dX9_findResistance_48 : decode cX9_findResistance 48 = .ok (.ireturn, 1) := by decide +kernel
theorem dX9_resistance_0 : decode cX9_resistance 0 = .ok (.aload_n 0, 1) := by decide +kernel
theorem dX9_resistance_1 : decode cX9_resistance 1 = .ok (.iload_n 1, 1) := by decide +kernel
theorem dX9_resistance_2 : decode cX9_resistance 2 = .ok (.iload_n 2, 1) := by decide +kernel
theorem dX9_resistance_3 : decode cX9_resistance 3 = .ok (.iload_n 3, 1) := by decide +kernel
theorem dX9_resistance_4 : decode cX9_resistance 4 = .ok (.invokevirtual 269, 3) := by decide +kernel
theorem dX9_resistance_7 : decode cX9_resistance 7 = .ok (.istore 4, 2) := by decide +kernel
theorem dX9_resistance_9 : decode cX9_resistance 9 = .ok (.iload 4, 2) := by decide +kernel
theorem dX9_resistance_11 : decode cX9_resistance 11 = .ok (.ifCond .eq 10, 3) := by decide +kernel
theorem dX9_resistance_14 : decode cX9_resistance 14 = .ok (.aload_n 0, 1) := by decide +kernel
theorem dX9_resistance_15 : decode cX9_resistance 15 = .ok (.iload 4, 2) := by decide +kernel
theorem dX9_resistance_17 : decode cX9_resistance 17 = .ok (.invokevirtual 272, 3) := by decide +kernel
theorem dX9_resistance_20 : decode cX9_resistance 20 = .ok (.lreturn, 1) := by decide +kernel
theorem dX9_resistance_21 : decode cX9_resistance 21 = .ok (.aload_n 0, 1) := by decide +kernel
theorem dX9_resistance_22 : decode cX9_resistance 22 = .ok (.invokevirtual 230, 3) := by decide +kernel
theorem dX9_resistance_25 : decode cX9_resistance 25 = .ok (.aload_n 0, 1) := by decide +kernel
theorem dX9_resistance_26 : decode cX9_resistance 26 = .ok (.iload_n 1, 1) := by decide +kernel
theorem dX9_resistance_27 : decode cX9_resistance 27 = .ok (.iload_n 2, 1) := by decide +kernel
theorem dX9_resistance_28 : decode cX9_resistance 28 = .ok (.invokevirtual 303, 3) := by decide +kernel
theorem dX9_resistance_31 : decode cX9_resistance 31 = .ok (.ifCond .eq 18, 3) := by decide +kernel
theorem dX9_resistance_34 : decode cX9_resistance 34 = .ok (.aload_n 0, 1) := by decide +kernel
theorem dX9_resistance_35 : decode cX9_resistance 35 = .ok (.getfield 248, 3) := by decide +kernel
theorem dX9_resistance_38 : decode cX9_resistance 38 = .ok (.aload_n 0, 1) := by decide +kernel
theorem dX9_resistance_39 : decode cX9_resistance 39 = .ok (.getfield 252, 3) := by decide +kernel
theorem dX9_resistance_42 : decode cX9_resistance 42 = .ok (.iload_n 3, 1) := by decide +kernel
theorem dX9_resistance_43 : decode cX9_resistance 43 = .ok (.invokestatic 279, 3) := by decide +kernel
theorem dX9_resistance_46 : decode cX9_resistance 46 = .ok (.goto 9, 3) := by decide +kernel
theorem dX9_resistance_49 : decode cX9_resistance 49 = .ok (.aload_n 0, 1) := by decide +kernel
theorem dX9_resistance_50 : decode cX9_resistance 50 = .ok (.bipush (-3), 2) := by decide +kernel
theorem dX9_resistance_52 : decode cX9_resistance 52 = .ok (.invokevirtual 272, 3) := by decide +kernel
theorem dX9_resistance_55 : decode cX9_resistance 55 = .ok (.lreturn, 1) := by decide +kernel
theorem dX9_ahead_0 : decode cX9_ahead 0 = .ok (.aload_n 0, 1) := by decide +kernel
theorem dX9_ahead_1 : decode cX9_ahead 1 = .ok (.iload_n 1, 1) := by decide +kernel
theorem dX9_ahead_2 : decode cX9_ahead 2 = .ok (.invokevirtual 141, 3) := by decide +kernel
theorem dX9_ahead_5 : decode cX9_ahead 5 = .ok (.ifCond .eq 11, 3) := by decide +kernel
theorem dX9_ahead_8 : decode cX9_ahead 8 = .ok (.aload_n 0, 1) := by decide +kernel
theorem dX9_ahead_9 : decode cX9_ahead 9 = .ok (.iload_n 3, 1) := by decide +kernel
theorem dX9_ahead_10 : decode cX9_ahead 10 = .ok (.invokevirtual 141, 3) := by decide +kernel
theorem dX9_ahead_13 : decode cX9_ahead 13 = .ok (.ifCond .ne 9, 3) := by decide +kernel
theorem dX9_ahead_16 : decode cX9_ahead 16 = .ok (.aload_n 0, 1) := by decide +kernel
theorem dX9_ahead_17 : decode cX9_ahead 17 = .ok (.iconst (-1), 1) := by decide +kernel
theorem dX9_ahead_18 : decode cX9_ahead 18 = .ok (.invokevirtual 272, 3) := by decide +kernel
theorem dX9_ahead_21 : decode cX9_ahead 21 = .ok (.lreturn, 1) := by decide +kernel
theorem dX9_ahead_22 : decode cX9_ahead 22 = .ok (.iload_n 2, 1) := by decide +kernel
theorem dX9_ahead_23 : decode cX9_ahead 23 = .ok (.ifCond .ge 10, 3) := by decide +kernel
theorem dX9_ahead_26 : decode cX9_ahead 26 = .ok (.aload_n 0, 1) := by decide +kernel
theorem dX9_ahead_27 : decode cX9_ahead 27 = .ok (.bipush (-4), 2) := by decide +kernel
theorem dX9_ahead_29 : decode cX9_ahead 29 = .ok (.invokevirtual 272, 3) := by decide +kernel
theorem dX9_ahead_32 : decode cX9_ahead 32 = .ok (.lreturn, 1) := by decide +kernel
theorem dX9_ahead_33 : decode cX9_ahead 33 = .ok (.iload_n 2, 1) := by decide +kernel
theorem dX9_ahead_34 : decode cX9_ahead 34 = .ok (.iconst 1, 1) := by decide +kernel
theorem dX9_ahead_35 : decode cX9_ahead 35 = .ok (.aload_n 0, 1) := by decide +kernel
theorem dX9_ahead_36 : decode cX9_ahead 36 = .ok (.getfield 7, 3) := by decide +kernel
theorem dX9_ahead_39 : decode cX9_ahead 39 = .ok (.ishl, 1) := by decide +kernel
theorem dX9_ahead_40 : decode cX9_ahead 40 = .ok (.if_icmp .lt 10, 3) := by decide +kernel
theorem dX9_ahead_43 : decode cX9_ahead 43 = .ok (.aload_n 0, 1) := by decide +kernel
theorem dX9_ahead_44 : decode cX9_ahead 44 = .ok (.bipush (-6), 2) := by decide +kernel
theorem dX9_ahead_46 : decode cX9_ahead 46 = .ok (.invokevirtual 272, 3) := by decide +kernel
theorem dX9_ahead_49 : decode cX9_ahead 49 = .ok (.lreturn, 1) := by decide +kernel
theorem dX9_ahead_50 : decode cX9_ahead 50 = .ok (.iload 4, 2) := by decide +kernel
theorem dX9_ahead_52 : decode cX9_ahead 52 = .ok (.i2l, 1) := by decide +kernel
theorem dX9_ahead_53 : decode cX9_ahead 53 = .ok (.lconst 0, 1) := by decide +kernel
theorem dX9_ahead_54 : decode cX9_ahead 54 = .ok (.lconst 1, 1) := by decide +kernel
theorem dX9_ahead_55 : decode cX9_ahead 55 = .ok (.invokestatic 116, 3) := by decide +kernel
theorem dX9_ahead_58 : decode cX9_ahead 58 = .ok (.ifCond .ne 10, 3) := by decide +kernel
theorem dX9_ahead_61 : decode cX9_ahead 61 = .ok (.aload_n 0, 1) := by decide +kernel
theorem dX9_ahead_62 : decode cX9_ahead 62 = .ok (.bipush (-2), 2) := by decide +kernel
theorem dX9_ahead_64 : decode cX9_ahead 64 = .ok (.invokevirtual 272, 3) := by decide +kernel
theorem dX9_ahead_67 : decode cX9_ahead 67 = .ok (.lreturn, 1) := by decide +kernel
theorem dX9_ahead_68 : decode cX9_ahead 68 = .ok (.aload_n 0, 1) := by decide +kernel
theorem dX9_ahead_69 : decode cX9_ahead 69 = .ok (.invokevirtual 230, 3) := by decide +kernel
theorem dX9_ahead_72 : decode cX9_ahead 72 = .ok (.aload_n 0, 1) := by decide +kernel
theorem dX9_ahead_73 : decode cX9_ahead 73 = .ok (.iload_n 1, 1) := by decide +kernel
theorem dX9_ahead_74 : decode cX9_ahead 74 = .ok (.invokevirtual 233, 3) := by decide +kernel
theorem dX9_ahead_77 : decode cX9_ahead 77 = .ok (.istore 5, 2) := by decide +kernel
theorem dX9_ahead_79 : decode cX9_ahead 79 = .ok (.iload_n 2, 1) := by decide +kernel
theorem dX9_ahead_80 : decode cX9_ahead 80 = .ok (.iload_n 3, 1) := by decide +kernel
theorem dX9_ahead_81 : decode cX9_ahead 81 = .ok (.invokestatic 226, 3) := by decide +kernel
theorem dX9_ahead_84 : decode cX9_ahead 84 = .ok (.ifCond .eq 10, 3) := by decide +kernel
theorem dX9_ahead_87 : decode cX9_ahead 87 = .ok (.iload 5, 2) := by decide +kernel
theorem dX9_ahead_89 : decode cX9_ahead 89 = .ok (.iload_n 2, 1) := by decide +kernel
theorem dX9_ahead_90 : decode cX9_ahead 90 = .ok (.iand, 1) := by decide +kernel
theorem dX9_ahead_91 : decode cX9_ahead 91 = .ok (.ifCond .ne 10, 3) := by decide +kernel
theorem dX9_ahead_94 : decode cX9_ahead 94 = .ok (.aload_n 0, 1) := by decide +kernel
theorem dX9_ahead_95 : decode cX9_ahead 95 = .ok (.bipush (-3), 2) := by decide +kernel
theorem dX9_ahead_97 : decode cX9_ahead 97 = .ok (.invokevirtual 272, 3) := by decide +kernel
theorem dX9_ahead_100 : decode cX9_ahead 100 = .ok (.lreturn, 1) := by decide +kernel
theorem dX9_ahead_101 : decode cX9_ahead 101 = .ok (.iload_n 2, 1) := by decide +kernel
theorem dX9_ahead_102 : decode cX9_ahead 102 = .ok (.iload_n 1, 1) := by decide +kernel
theorem dX9_ahead_103 : decode cX9_ahead 103 = .ok (.invokestatic 226, 3) := by decide +kernel
theorem dX9_ahead_106 : decode cX9_ahead 106 = .ok (.ifCond .eq 20, 3) := by decide +kernel
theorem dX9_ahead_109 : decode cX9_ahead 109 = .ok (.iload 4, 2) := by decide +kernel
theorem dX9_ahead_111 : decode cX9_ahead 111 = .ok (.iconst 1, 1) := by decide +kernel
theorem dX9_ahead_112 : decode cX9_ahead 112 = .ok (.if_icmp .eq 8, 3) := by decide +kernel
theorem dX9_ahead_115 : decode cX9_ahead 115 = .ok (.iload_n 1, 1) := by decide +kernel
theorem dX9_ahead_116 : decode cX9_ahead 116 = .ok (.iload_n 3, 1) := by decide +kernel
theorem dX9_ahead_117 : decode cX9_ahead 117 = .ok (.if_icmp .ne 7, 3) := by decide +kernel
theorem dX9_ahead_120 : decode cX9_ahead 120 = .ok (.lconst 1, 1) := by decide +kernel
theorem dX9_ahead_121 : decode cX9_ahead 121 = .ok (.goto 4, 3) := by decide +kernel
theorem dX9_ahead_124 : decode cX9_ahead 124 = .ok (.lconst 0, 1) := by decide +kernel
theorem dX9_ahead_125 : decode cX9_ahead 125 = .ok (.lreturn, 1) := by decide +kernel
theorem dX9_ahead_126 : decode cX9_ahead 126 = .ok (.aload_n 0, 1) := by decide +kernel
theorem dX9_ahead_127 : decode cX9_ahead 127 = .ok (.iload 5, 2) := by decide +kernel
theorem dX9_ahead_129 : decode cX9_ahead 129 = .ok (.iload_n 2, 1) := by decide +kernel
theorem dX9_ahead_130 : decode cX9_ahead 130 = .ok (.iconst (-1), 1) := by decide +kernel
theorem dX9_ahead_131 : decode cX9_ahead 131 = .ok (.ixor, 1) := by decide +kernel
theorem dX9_ahead_132 : decode cX9_ahead 132 = .ok (.iand, 1) := by decide +kernel
theorem dX9_ahead_133 : decode cX9_ahead 133 = .ok (.invokevirtual 255, 3) := by decide +kernel
theorem dX9_ahead_136 : decode cX9_ahead 136 = .ok (.iconst 0, 1) := by decide +kernel
theorem dX9_ahead_137 : decode cX9_ahead 137 = .ok (.istore 6, 2) := by decide +kernel
theorem dX9_ahead_139 : decode cX9_ahead 139 = .ok (.iload 6, 2) := by decide +kernel
theorem dX9_ahead_141 : decode cX9_ahead 141 = .ok (.aload_n 0, 1) := by decide +kernel
theorem dX9_ahead_142 : decode cX9_ahead 142 = .ok (.getfield 236, 3) := by decide +kernel
theorem dX9_ahead_145 : decode cX9_ahead 145 = .ok (.if_icmp .ge 29, 3) := by decide +kernel
theorem dX9_ahead_148 : decode cX9_ahead 148 = .ok (.aload_n 0, 1) := by decide +kernel
theorem dX9_ahead_149 : decode cX9_ahead 149 = .ok (.getfield 64, 3) := by decide +kernel
theorem dX9_ahead_152 : decode cX9_ahead 152 = .ok (.iload 6, 2) := by decide +kernel
theorem dX9_ahead_154 : decode cX9_ahead 154 = .ok (.aload_n 0, 1) := by decide +kernel
theorem dX9_ahead_155 : decode cX9_ahead 155 = .ok (.aload_n 0, 1) := by decide +kernel
theorem dX9_ahead_156 : decode cX9_ahead 156 = .ok (.getfield 57, 3) := by decide +kernel
theorem dX9_ahead_159 : decode cX9_ahead 159 = .ok (.iload 6, 2) := by decide +kernel
theorem dX9_ahead_161 : decode cX9_ahead 161 = .ok (.iaload, 1) := by decide +kernel
theorem dX9_ahead_162 : decode cX9_ahead 162 = .ok (.iload_n 3, 1) := by decide +kernel
theorem dX9_ahead_163 : decode cX9_ahead 163 = .ok (.invokevirtual 242, 3) := by decide +kernel
theorem dX9_ahead_166 : decode cX9_ahead 166 = .ok (.i2l, 1) := by decide +kernel
theorem dX9_ahead_167 : decode cX9_ahead 167 = .ok (.lastore, 1) := by decide +kernel
theorem dX9_ahead_168 : decode cX9_ahead 168 = .ok (.iinc 6 1, 3) := by decide +kernel
theorem dX9_ahead_171 : decode cX9_ahead 171 = .ok (.goto (-32), 3) := by decide +kernel
theorem dX9_ahead_174 : decode cX9_ahead 174 = .ok (.aload_n 0, 1) := by decide +kernel
theorem dX9_ahead_175 : decode cX9_ahead 175 = .ok (.aload_n 0, 1) := by decide +kernel
theorem dX9_ahead_176 : decode cX9_ahead 176 = .ok (.iload_n 1, 1) := by decide +kernel
theorem dX9_ahead_177 : decode cX9_ahead 177 = .ok (.invokevirtual 262, 3) := by decide +kernel
theorem dX9_ahead_180 : decode cX9_ahead 180 = .ok (.invokevirtual 258, 3) := by decide +kernel
theorem dX9_ahead_183 : decode cX9_ahead 183 = .ok (.lstore 6, 2) := by decide +kernel
theorem dX9_ahead_185 : decode cX9_ahead 185 = .ok (.lload 6, 2) := by decide +kernel
theorem dX9_ahead_187 : decode cX9_ahead 187 = .ok (.aload_n 0, 1) := by decide +kernel
theorem dX9_ahead_188 : decode cX9_ahead 188 = .ok (.iconst (-1), 1) := by decide +kernel
theorem dX9_ahead_189 : decode cX9_ahead 189 = .ok (.invokevirtual 258, 3) := by decide +kernel
theorem dX9_ahead_192 : decode cX9_ahead 192 = .ok (.iload 4, 2) := by decide +kernel
theorem dX9_ahead_194 : decode cX9_ahead 194 = .ok (.invokestatic 279, 3) := by decide +kernel
theorem dX9_ahead_197 : decode cX9_ahead 197 = .ok (.lreturn, 1) := by decide +kernel
theorem dX9_flow_0 : decode cX9_flow 0 = .ok (.aload_n 0, 1) := by decide +kernel
theorem dX9_flow_1 : decode cX9_flow 1 = .ok (.iload_n 1, 1) := by decide +kernel
theorem dX9_flow_2 : decode cX9_flow 2 = .ok (.invokevirtual 145, 3) := by decide +kernel
theorem dX9_flow_5 : decode cX9_flow 5 = .ok (.ifCond .eq 24, 3) := by decide +kernel
