theorem dX9_flow_8 : decode cX9_flow 8 = .ok (.aload_n 0, 1) := by decide +kernel
theorem dX9_flow_9 : decode cX9_flow 9 = .ok (.iload_n 2, 1) := by decide +kernel
theorem dX9_flow_10 : decode cX9_flow 10 = .ok (.invokevirtual 141, 3) := by decide +kernel
theorem dX9_flow_13 : decode cX9_flow 13 = .ok (.ifCond .eq 16, 3) := by decide +kernel
theorem dX9_flow_16 : decode cX9_flow 16 = .ok (.aload_n 0, 1) := by decide +kernel
theorem dX9_flow_17 : decode cX9_flow 17 = .ok (.iload_n 3, 1) := by decide +kernel
theorem dX9_flow_18 : decode cX9_flow 18 = .ok (.invokevirtual 141, 3) := by decide +kernel
theorem dX9_flow_21 : decode cX9_flow 21 = .ok (.ifCond .eq 8, 3) := by decide +kernel
theorem dX9_flow_24 : decode cX9_flow 24 = .ok (.iload_n 2, 1) := by decide +kernel
theorem dX9_flow_25 : decode cX9_flow 25 = .ok (.iload_n 3, 1) := by decide +kernel
theorem dX9_flow_26 : decode cX9_flow 26 = .ok (.if_icmp .ne 9, 3) := by decide +kernel
theorem dX9_flow_29 : decode cX9_flow 29 = .ok (.aload_n 0, 1) := by decide +kernel
theorem dX9_flow_30 : decode cX9_flow 30 = .ok (.iconst (-1), 1) := by decide +kernel
theorem dX9_flow_31 : decode cX9_flow 31 = .ok (.invokevirtual 272, 3) := by decide +kernel
theorem dX9_flow_34 : decode cX9_flow 34 = .ok (.lreturn, 1) := by decide +kernel
theorem dX9_flow_35 : decode cX9_flow 35 = .ok (.iload 4, 2) := by decide +kernel
theorem dX9_flow_37 : decode cX9_flow 37 = .ok (.i2l, 1) := by decide +kernel
theorem dX9_flow_38 : decode cX9_flow 38 = .ok (.lconst 0, 1) := by decide +kernel
theorem dX9_flow_39 : decode cX9_flow 39 = .ok (.lconst 1, 1) := by decide +kernel
theorem dX9_flow_40 : decode cX9_flow 40 = .ok (.invokestatic 116, 3) := by decide +kernel
theorem dX9_flow_43 : decode cX9_flow 43 = .ok (.ifCond .ne 10, 3) := by decide +kernel
theorem dX9_flow_46 : decode cX9_flow 46 = .ok (.aload_n 0, 1) := by decide +kernel
theorem dX9_flow_47 : decode cX9_flow 47 = .ok (.bipush (-2), 2) := by decide +kernel
theorem dX9_flow_49 : decode cX9_flow 49 = .ok (.invokevirtual 272, 3) := by decide +kernel
theorem dX9_flow_52 : decode cX9_flow 52 = .ok (.lreturn, 1) := by decide +kernel
theorem dX9_flow_53 : decode cX9_flow 53 = .ok (.aload_n 0, 1) := by decide +kernel
theorem dX9_flow_54 : decode cX9_flow 54 = .ok (.invokevirtual 230, 3) := by decide +kernel
theorem dX9_flow_57 : decode cX9_flow 57 = .ok (.aload_n 0, 1) := by decide +kernel
theorem dX9_flow_58 : decode cX9_flow 58 = .ok (.iload_n 2, 1) := by decide +kernel
theorem dX9_flow_59 : decode cX9_flow 59 = .ok (.invokevirtual 233, 3) := by decide +kernel
theorem dX9_flow_62 : decode cX9_flow 62 = .ok (.iload_n 3, 1) := by decide +kernel
theorem dX9_flow_63 : decode cX9_flow 63 = .ok (.invokestatic 226, 3) := by decide +kernel
theorem dX9_flow_66 : decode cX9_flow 66 = .ok (.ifCond .ne 10, 3) := by decide +kernel
theorem dX9_flow_69 : decode cX9_flow 69 = .ok (.aload_n 0, 1) := by decide +kernel
theorem dX9_flow_70 : decode cX9_flow 70 = .ok (.bipush (-3), 2) := by decide +kernel
theorem dX9_flow_72 : decode cX9_flow 72 = .ok (.invokevirtual 272, 3) := by decide +kernel
theorem dX9_flow_75 : decode cX9_flow 75 = .ok (.lreturn, 1) := by decide +kernel
theorem dX9_flow_76 : decode cX9_flow 76 = .ok (.aload_n 0, 1) := by decide +kernel
theorem dX9_flow_77 : decode cX9_flow 77 = .ok (.iload_n 2, 1) := by decide +kernel
theorem dX9_flow_78 : decode cX9_flow 78 = .ok (.iload_n 3, 1) := by decide +kernel
theorem dX9_flow_79 : decode cX9_flow 79 = .ok (.aload_n 0, 1) := by decide +kernel
theorem dX9_flow_80 : decode cX9_flow 80 = .ok (.getfield 13, 3) := by decide +kernel
theorem dX9_flow_83 : decode cX9_flow 83 = .ok (.iload_n 1, 1) := by decide +kernel
theorem dX9_flow_84 : decode cX9_flow 84 = .ok (.iaload, 1) := by decide +kernel
theorem dX9_flow_85 : decode cX9_flow 85 = .ok (.invokevirtual 299, 3) := by decide +kernel
theorem dX9_flow_88 : decode cX9_flow 88 = .ok (.aload_n 0, 1) := by decide +kernel
theorem dX9_flow_89 : decode cX9_flow 89 = .ok (.iload_n 2, 1) := by decide +kernel
theorem dX9_flow_90 : decode cX9_flow 90 = .ok (.iload_n 3, 1) := by decide +kernel
theorem dX9_flow_91 : decode cX9_flow 91 = .ok (.aload_n 0, 1) := by decide +kernel
theorem dX9_flow_92 : decode cX9_flow 92 = .ok (.getfield 17, 3) := by decide +kernel
theorem dX9_flow_95 : decode cX9_flow 95 = .ok (.iload_n 1, 1) := by decide +kernel
theorem dX9_flow_96 : decode cX9_flow 96 = .ok (.iaload, 1) := by decide +kernel
theorem dX9_flow_97 : decode cX9_flow 97 = .ok (.invokevirtual 299, 3) := by decide +kernel
theorem dX9_flow_100 : decode cX9_flow 100 = .ok (.lsub, 1) := by decide +kernel
theorem dX9_flow_101 : decode cX9_flow 101 = .ok (.lstore 5, 2) := by decide +kernel
theorem dX9_flow_103 : decode cX9_flow 103 = .ok (.aload_n 0, 1) := by decide +kernel
theorem dX9_flow_104 : decode cX9_flow 104 = .ok (.iload_n 3, 1) := by decide +kernel
theorem dX9_flow_105 : decode cX9_flow 105 = .ok (.invokevirtual 296, 3) := by decide +kernel
theorem dX9_flow_108 : decode cX9_flow 108 = .ok (.lload 5, 2) := by decide +kernel
theorem dX9_flow_110 : decode cX9_flow 110 = .ok (.aload_n 0, 1) := by decide +kernel
theorem dX9_flow_111 : decode cX9_flow 111 = .ok (.iload_n 1, 1) := by decide +kernel
theorem dX9_flow_112 : decode cX9_flow 112 = .ok (.invokevirtual 171, 3) := by decide +kernel
theorem dX9_flow_115 : decode cX9_flow 115 = .ok (.i2l, 1) := by decide +kernel
theorem dX9_flow_116 : decode cX9_flow 116 = .ok (.lmul, 1) := by decide +kernel
theorem dX9_flow_117 : decode cX9_flow 117 = .ok (.aload_n 0, 1) := by decide +kernel
theorem dX9_flow_118 : decode cX9_flow 118 = .ok (.getfield 252, 3) := by decide +kernel
theorem dX9_flow_121 : decode cX9_flow 121 = .ok (.iload 4, 2) := by decide +kernel
theorem dX9_flow_123 : decode cX9_flow 123 = .ok (.invokestatic 279, 3) := by decide +kernel
theorem dX9_flow_126 : decode cX9_flow 126 = .ok (.lreturn, 1) := by decide +kernel
theorem dX9_isLess_0 : decode cX9_isLess 0 = .ok (.lload_n 0, 1) := by decide +kernel
theorem dX9_isLess_1 : decode cX9_isLess 1 = .ok (.lload_n 2, 1) := by decide +kernel
theorem dX9_isLess_2 : decode cX9_isLess 2 = .ok (.ldiv, 1) := by decide +kernel
theorem dX9_isLess_3 : decode cX9_isLess 3 = .ok (.lstore 8, 2) := by decide +kernel
theorem dX9_isLess_5 : decode cX9_isLess 5 = .ok (.lload 4, 2) := by decide +kernel
theorem dX9_isLess_7 : decode cX9_isLess 7 = .ok (.lload 6, 2) := by decide +kernel
theorem dX9_isLess_9 : decode cX9_isLess 9 = .ok (.ldiv, 1) := by decide +kernel
theorem dX9_isLess_10 : decode cX9_isLess 10 = .ok (.lstore 10, 2) := by decide +kernel
theorem dX9_isLess_12 : decode cX9_isLess 12 = .ok (.lload 8, 2) := by decide +kernel
theorem dX9_isLess_14 : decode cX9_isLess 14 = .ok (.lload 10, 2) := by decide +kernel
theorem dX9_isLess_16 : decode cX9_isLess 16 = .ok (.lcmp, 1) := by decide +kernel
theorem dX9_isLess_17 : decode cX9_isLess 17 = .ok (.ifCond .eq 19, 3) := by decide +kernel
theorem dX9_isLess_20 : decode cX9_isLess 20 = .ok (.lload 8, 2) := by decide +kernel
theorem dX9_isLess_22 : decode cX9_isLess 22 = .ok (.lload 10, 2) := by decide +kernel
theorem dX9_isLess_24 : decode cX9_isLess 24 = .ok (.lcmp, 1) := by decide +kernel
theorem dX9_isLess_25 : decode cX9_isLess 25 = .ok (.ifCond .ge 7, 3) := by decide +kernel
theorem dX9_isLess_28 : decode cX9_isLess 28 = .ok (.iconst 1, 1) := by decide +kernel
theorem dX9_isLess_29 : decode cX9_isLess 29 = .ok (.goto 29, 3) := by decide +kernel
theorem dX9_isLess_32 : decode cX9_isLess 32 = .ok (.iconst 0, 1) := by decide +kernel
theorem dX9_isLess_33 : decode cX9_isLess 33 = .ok (.goto 25, 3) := by decide +kernel
theorem dX9_isLess_36 : decode cX9_isLess 36 = .ok (.lload_n 0, 1) := by decide +kernel
theorem dX9_isLess_37 : decode cX9_isLess 37 = .ok (.lload_n 2, 1) := by decide +kernel
theorem dX9_isLess_38 : decode cX9_isLess 38 = .ok (.lrem, 1) := by decide +kernel
theorem dX9_isLess_39 : decode cX9_isLess 39 = .ok (.lload 6, 2) := by decide +kernel
theorem dX9_isLess_41 : decode cX9_isLess 41 = .ok (.lmul, 1) := by decide +kernel
theorem dX9_isLess_42 : decode cX9_isLess 42 = .ok (.lload 4, 2) := by decide +kernel
theorem dX9_isLess_44 : decode cX9_isLess 44 = .ok (.lload 6, 2) := by decide +kernel
theorem dX9_isLess_46 : decode cX9_isLess 46 = .ok (.lrem, 1) := by decide +kernel
theorem dX9_isLess_47 : decode cX9_isLess 47 = .ok (.lload_n 2, 1) := by decide +kernel
theorem dX9_isLess_48 : decode cX9_isLess 48 = .ok (.lmul, 1) := by decide +kernel
theorem dX9_isLess_49 : decode cX9_isLess 49 = .ok (.lcmp, 1) := by decide +kernel
theorem dX9_isLess_50 : decode cX9_isLess 50 = .ok (.ifCond .ge 7, 3) := by decide +kernel
theorem dX9_isLess_53 : decode cX9_isLess 53 = .ok (.iconst 1, 1) := by decide +kernel
theorem dX9_isLess_54 : decode cX9_isLess 54 = .ok (.goto 4, 3) := by decide +kernel
theorem dX9_isLess_57 : decode cX9_isLess 57 = .ok (.iconst 0, 1) := by decide +kernel
theorem dX9_isLess_58 : decode cX9_isLess 58 = .ok (.ireturn, 1) := by decide +kernel
theorem dX9_added_0 : decode cX9_added 0 = .ok (.aload_n 0, 1) := by decide +kernel
theorem dX9_added_1 : decode cX9_added 1 = .ok (.iload_n 1, 1) := by decide +kernel
theorem dX9_added_2 : decode cX9_added 2 = .ok (.invokevirtual 141, 3) := by decide +kernel
theorem dX9_added_5 : decode cX9_added 5 = .ok (.ifCond .eq 16, 3) := by decide +kernel
theorem dX9_added_8 : decode cX9_added 8 = .ok (.aload_n 0, 1) := by decide +kernel
theorem dX9_added_9 : decode cX9_added 9 = .ok (.iload_n 2, 1) := by decide +kernel
theorem dX9_added_10 : decode cX9_added 10 = .ok (.invokevirtual 141, 3) := by decide +kernel
theorem dX9_added_13 : decode cX9_added 13 = .ok (.ifCond .eq 8, 3) := by decide +kernel
theorem dX9_added_16 : decode cX9_added 16 = .ok (.iload_n 1, 1) := by decide +kernel
theorem dX9_added_17 : decode cX9_added 17 = .ok (.iload_n 2, 1) := by decide +kernel
theorem dX9_added_18 : decode cX9_added 18 = .ok (.if_icmp .ne 9, 3) := by decide +kernel
theorem dX9_added_21 : decode cX9_added 21 = .ok (.aload_n 0, 1) := by decide +kernel
theorem dX9_added_22 : decode cX9_added 22 = .ok (.iconst (-1), 1) := by decide +kernel
theorem dX9_added_23 : decode cX9_added 23 = .ok (.invokevirtual 125, 3) := by decide +kernel
theorem dX9_added_26 : decode cX9_added 26 = .ok (.ireturn, 1) := by decide +kernel
theorem dX9_added_27 : decode cX9_added 27 = .ok (.aload_n 0, 1) := by decide +kernel
theorem dX9_added_28 : decode cX9_added 28 = .ok (.invokevirtual 230, 3) := by decide +kernel
theorem dX9_added_31 : decode cX9_added 31 = .ok (.aload_n 0, 1) := by decide +kernel
theorem dX9_added_32 : decode cX9_added 32 = .ok (.iload_n 1, 1) := by decide +kernel
theorem dX9_added_33 : decode cX9_added 33 = .ok (.iload_n 2, 1) := by decide +kernel
theorem dX9_added_34 : decode cX9_added 34 = .ok (.iconst 0, 1) := by decide +kernel
theorem dX9_added_35 : decode cX9_added 35 = .ok (.invokevirtual 275, 3) := by decide +kernel
theorem dX9_added_38 : decode cX9_added 38 = .ok (.istore_n 3, 1) := by decide +kernel
theorem dX9_added_39 : decode cX9_added 39 = .ok (.aload_n 0, 1) := by decide +kernel
theorem dX9_added_40 : decode cX9_added 40 = .ok (.getfield 248, 3) := by decide +kernel
theorem dX9_added_43 : decode cX9_added 43 = .ok (.lstore 4, 2) := by decide +kernel
theorem dX9_added_45 : decode cX9_added 45 = .ok (.aload_n 0, 1) := by decide +kernel
theorem dX9_added_46 : decode cX9_added 46 = .ok (.getfield 252, 3) := by decide +kernel
theorem dX9_added_49 : decode cX9_added 49 = .ok (.lstore 6, 2) := by decide +kernel
theorem dX9_added_51 : decode cX9_added 51 = .ok (.bipush (-9), 2) := by decide +kernel
theorem dX9_added_53 : decode cX9_added 53 = .ok (.istore 8, 2) := by decide +kernel
theorem dX9_added_55 : decode cX9_added 55 = .ok (.aload_n 0, 1) := by decide +kernel
theorem dX9_added_56 : decode cX9_added 56 = .ok (.aload_n 0, 1) := by decide +kernel
theorem dX9_added_57 : decode cX9_added 57 = .ok (.getfield 120, 3) := by decide +kernel
theorem dX9_added_60 : decode cX9_added 60 = .ok (.iconst 1, 1) := by decide +kernel
theorem dX9_added_61 : decode cX9_added 61 = .ok (.iadd, 1) := by decide +kernel
theorem dX9_added_62 : decode cX9_added 62 = .ok (.putfield 220, 3) := by decide +kernel
theorem dX9_added_65 : decode cX9_added 65 = .ok (.aload_n 0, 1) := by decide +kernel
theorem dX9_added_66 : decode cX9_added 66 = .ok (.iconst 1, 1) := by decide +kernel
theorem dX9_added_67 : decode cX9_added 67 = .ok (.aload_n 0, 1) := by decide +kernel
theorem dX9_added_68 : decode cX9_added 68 = .ok (.getfield 220, 3) := by decide +kernel
theorem dX9_added_71 : decode cX9_added 71 = .ok (.ishl, 1) := by decide +kernel
theorem dX9_added_72 : decode cX9_added 72 = .ok (.iconst 1, 1) := by decide +kernel
theorem dX9_added_73 : decode cX9_added 73 = .ok (.isub, 1) := by decide +kernel
theorem dX9_added_74 : decode cX9_added 74 = .ok (.putfield 223, 3) := by decide +kernel
theorem dX9_added_77 : decode cX9_added 77 = .ok (.aload_n 0, 1) := by decide +kernel
theorem dX9_added_78 : decode cX9_added 78 = .ok (.getfield 20, 3) := by decide +kernel
theorem dX9_added_81 : decode cX9_added 81 = .ok (.aload_n 0, 1) := by decide +kernel
theorem dX9_added_82 : decode cX9_added 82 = .ok (.getfield 120, 3) := by decide +kernel
theorem dX9_added_85 : decode cX9_added 85 = .ok (.iconst 0, 1) := by decide +kernel
theorem dX9_added_86 : decode cX9_added 86 = .ok (.iastore, 1) := by decide +kernel
theorem dX9_added_87 : decode cX9_added 87 = .ok (.aload_n 0, 1) := by decide +kernel
theorem dX9_added_88 : decode cX9_added 88 = .ok (.getfield 23, 3) := by decide +kernel
theorem dX9_added_91 : decode cX9_added 91 = .ok (.aload_n 0, 1) := by decide +kernel
theorem dX9_added_92 : decode cX9_added 92 = .ok (.getfield 120, 3) := by decide +kernel
theorem dX9_added_95 : decode cX9_added 95 = .ok (.iconst 0, 1) := by decide +kernel
theorem dX9_added_96 : decode cX9_added 96 = .ok (.iastore, 1) := by decide +kernel
theorem dX9_added_97 : decode cX9_added 97 = .ok (.aload_n 0, 1) := by decide +kernel
theorem dX9_added_98 : decode cX9_added 98 = .ok (.getfield 26, 3) := by decide +kernel
theorem dX9_added_101 : decode cX9_added 101 = .ok (.aload_n 0, 1) := by decide +kernel
theorem dX9_added_102 : decode cX9_added 102 = .ok (.getfield 120, 3) := by decide +kernel
theorem dX9_added_105 : decode cX9_added 105 = .ok (.iconst 1, 1) := by decide +kernel
theorem dX9_added_106 : decode cX9_added 106 = .ok (.iastore, 1) := by decide +kernel
theorem dX9_added_107 : decode cX9_added 107 = .ok (.aload_n 0, 1) := by decide +kernel
theorem dX9_added_108 : decode cX9_added 108 = .ok (.getfield 29, 3) := by decide +kernel
theorem dX9_added_111 : decode cX9_added 111 = .ok (.aload_n 0, 1) := by decide +kernel
theorem dX9_added_112 : decode cX9_added 112 = .ok (.getfield 120, 3) := by decide +kernel
theorem dX9_added_115 : decode cX9_added 115 = .ok (.iconst 1, 1) := by decide +kernel
theorem dX9_added_116 : decode cX9_added 116 = .ok (.iastore, 1) := by decide +kernel
theorem dX9_added_117 : decode cX9_added 117 = .ok (.iconst 0, 1) := by decide +kernel
theorem dX9_added_118 : decode cX9_added 118 = .ok (.istore 9, 2) := by decide +kernel
theorem dX9_added_120 : decode cX9_added 120 = .ok (.iload 9, 2) := by decide +kernel
theorem dX9_added_122 : decode cX9_added 122 = .ok (.aload_n 0, 1) := by decide +kernel
theorem dX9_added_123 : decode cX9_added 123 = .ok (.getfield 7, 3) := by decide +kernel
theorem dX9_added_126 : decode cX9_added 126 = .ok (.if_icmp .ge 111, 3) := by decide +kernel
theorem dX9_added_129 : decode cX9_added 129 = .ok (.iload 9, 2) := by decide +kernel
theorem dX9_added_131 : decode cX9_added 131 = .ok (.iconst 1, 1) := by decide +kernel
theorem dX9_added_132 : decode cX9_added 132 = .ok (.iadd, 1) := by decide +kernel
theorem dX9_added_133 : decode cX9_added 133 = .ok (.istore 10, 2) := by decide +kernel
theorem dX9_added_135 : decode cX9_added 135 = .ok (.iload 10, 2) := by decide +kernel
theorem dX9_added_137 : decode cX9_added 137 = .ok (.aload_n 0, 1) := by decide +kernel
theorem dX9_added_138 : decode cX9_added 138 = .ok (.getfield 7, 3) := by decide +kernel
theorem dX9_added_141 : decode cX9_added 141 = .ok (.if_icmp .ge 90, 3) := by decide +kernel
theorem dX9_added_144 : decode cX9_added 144 = .ok (.aload_n 0, 1) := by decide +kernel
theorem dX9_added_145 : decode cX9_added 145 = .ok (.getfield 13, 3) := by decide +kernel
theorem dX9_added_148 : decode cX9_added 148 = .ok (.aload_n 0, 1) := by decide +kernel
theorem dX9_added_149 : decode cX9_added 149 = .ok (.getfield 120, 3) := by decide +kernel
theorem dX9_added_152 : decode cX9_added 152 = .ok (.iload 9, 2) := by decide +kernel
theorem dX9_added_154 : decode cX9_added 154 = .ok (.iastore, 1) := by decide +kernel
theorem dX9_added_155 : decode cX9_added 155 = .ok (.aload_n 0, 1) := by decide +kernel
theorem dX9_added_156 : decode cX9_added 156 = .ok (.getfield 17, 3) := by decide +kernel
theorem dX9_added_159 : decode cX9_added 159 = .ok (.aload_n 0, 1) := by decide +kernel
theorem dX9_added_160 : decode cX9_added 160 = .ok (.getfield 120, 3) := by decide +kernel
theorem dX9_added_163 : decode cX9_added 163 = .ok (.iload 10, 2) := by decide +kernel
theorem dX9_added_165 : decode cX9_added 165 = .ok (.iastore, 1) := by decide +kernel
theorem dX9_added_166 : decode cX9_added 166 = .ok (.aload_n 0, 1) := by decide +kernel
theorem dX9_added_167 : decode cX9_added 167 = .ok (.iload_n 1, 1) := by decide +kernel
theorem dX9_added_168 : decode cX9_added 168 = .ok (.iload_n 2, 1) := by decide +kernel
theorem dX9_added_169 : decode cX9_added 169 = .ok (.iconst 0, 1) := by decide +kernel
theorem dX9_added_170 : decode cX9_added 170 = .ok (.invokevirtual 275, 3) := by decide +kernel
theorem dX9_added_173 : decode cX9_added 173 = .ok (.ifCond .eq 52, 3) := by decide +kernel
theorem dX9_added_176 : decode cX9_added 176 = .ok (.iload_n 3, 1) := by decide +kernel
theorem dX9_added_177 : decode cX9_added 177 = .ok (.ifCond .eq 24, 3) := by decide +kernel
theorem dX9_added_180 : decode cX9_added 180 = .ok (.aload_n 0, 1) := by decide +kernel
theorem dX9_added_181 : decode cX9_added 181 = .ok (.getfield 248, 3) := by decide +kernel
theorem dX9_added_184 : decode cX9_added 184 = .ok (.aload_n 0, 1) := by decide +kernel
theorem dX9_added_185 : decode cX9_added 185 = .ok (.getfield 252, 3) := by decide +kernel
theorem dX9_added_188 : decode cX9_added 188 = .ok (.lload 4, 2) := by decide +kernel
theorem dX9_added_190 : decode cX9_added 190 = .ok (.lload 6, 2) := by decide +kernel
theorem dX9_added_192 : decode cX9_added 192 = .ok (.invokestatic 306, 3) := by decide +kernel
theorem dX9_added_195 : decode cX9_added 195 = .ok (.ifCond .ne 6, 3) := by decide +kernel
theorem dX9_added_198 : decode cX9_added 198 = .ok (.goto 27, 3) := by decide +kernel
theorem dX9_added_201 : decode cX9_added 201 = .ok (.iconst 1, 1) := by decide +kernel
theorem dX9_added_202 : decode cX9_added 202 = .ok (.istore_n 3, 1) := by decide +kernel
theorem dX9_added_203 : decode cX9_added 203 = .ok (.bipush 10, 2) := by decide +kernel
theorem dX9_added_205 : decode cX9_added 205 = .ok (.iload 9, 2) := by decide +kernel
theorem dX9_added_207 : decode cX9_added 207 = .ok (.imul, 1) := by decide +kernel
theorem dX9_added_208 : decode cX9_added 208 = .ok (.iload 10, 2) := by decide +kernel
theorem dX9_added_210 : decode cX9_added 210 = .ok (.iadd, 1) := by decide +kernel
theorem dX9_added_211 : decode cX9_added 211 = .ok (.istore 8, 2) := by decide +kernel
theorem dX9_added_213 : decode cX9_added 213 = .ok (.aload_n 0, 1) := by decide +kernel
theorem dX9_added_214 : decode cX9_added 214 = .ok (.getfield 248, 3) := by decide +kernel
theorem dX9_added_217 : decode cX9_added 217 = .ok (.lstore 4, 2) := by decide +kernel
theorem dX9_added_219 : decode cX9_added 219 = .ok (.aload_n 0, 1) := by decide +kernel
theorem dX9_added_220 : decode cX9_added 220 = .ok (.getfield 252, 3) := by decide +kernel
theorem dX9_added_223 : decode cX9_added 223 = .ok (.lstore 6, 2) := by decide +kernel
theorem dX9_added_225 : decode cX9_added 225 = .ok (.iinc 10 1, 3) := by decide +kernel
theorem dX9_added_228 : decode cX9_added 228 = .ok (.goto (-93), 3) := by decide +kernel
theorem dX9_added_231 : decode cX9_added 231 = .ok (.iinc 9 1, 3) := by decide +kernel
theorem dX9_added_234 : decode cX9_added 234 = .ok (.goto (-114), 3) := by decide +kernel
theorem dX9_added_237 : decode cX9_added 237 = .ok (.iload 8, 2) := by decide +kernel
theorem dX9_added_239 : decode cX9_added 239 = .ok (.ireturn, 1) := by decide +kernel
theorem dX9_missed_0 : decode cX9_missed 0 = .ok (.aload_n 0, 1) := by decide +kernel
theorem dX9_missed_1 : decode cX9_missed 1 = .ok (.iload_n 1, 1) := by decide +kernel
theorem dX9_missed_2 : decode cX9_missed 2 = .ok (.invokevirtual 141, 3) := by decide +kernel
theorem dX9_missed_5 : decode cX9_missed 5 = .ok (.ifCond .eq 16, 3) := by decide +kernel
theorem dX9_missed_8 : decode cX9_missed 8 = .ok (.aload_n 0, 1) := by decide +kernel
theorem dX9_missed_9 : decode cX9_missed 9 = .ok (.iload_n 2, 1) := by decide +kernel
theorem dX9_missed_10 : decode cX9_missed 10 = .ok (.invokevirtual 141, 3) := by decide +kernel
theorem dX9_missed_13 : decode cX9_missed 13 = .ok (.ifCond .eq 8, 3) := by decide +kernel
theorem dX9_missed_16 : decode cX9_missed 16 = .ok (.iload_n 1, 1) := by decide +kernel
theorem dX9_missed_17 : decode cX9_missed 17 = .ok (.iload_n 2, 1) := by decide +kernel
theorem dX9_missed_18 : decode cX9_missed 18 = .ok (.if_icmp .ne 9, 3) := by decide +kernel
theorem dX9_missed_21 : decode cX9_missed 21 = .ok (.aload_n 0, 1) := by decide +kernel
theorem dX9_missed_22 : decode cX9_missed 22 = .ok (.iconst (-1), 1) := by decide +kernel
theorem dX9_missed_23 : decode cX9_missed 23 = .ok (.invokevirtual 125, 3) := by decide +kernel
theorem dX9_missed_26 : decode cX9_missed 26 = .ok (.ireturn, 1) := by decide +kernel
theorem dX9_missed_27 : decode cX9_missed 27 = .ok (.bipush (-9), 2) := by decide +kernel
theorem dX9_missed_29 : decode cX9_missed 29 = .ok (.istore_n 3, 1) := by decide +kernel
theorem dX9_missed_30 : decode cX9_missed 30 = .ok (.iconst 0, 1) := by decide +kernel
theorem dX9_missed_31 : decode cX9_missed 31 = .ok (.istore 4, 2) := by decide +kernel
theorem dX9_missed_33 : decode cX9_missed 33 = .ok (.lconst 0, 1) := by decide +kernel
theorem dX9_missed_34 : decode cX9_missed 34 = .ok (.lstore 5, 2) := by decide +kernel
theorem dX9_missed_36 : decode cX9_missed 36 = .ok (.lconst 1, 1) := by decide +kernel
theorem dX9_missed_37 : decode cX9_missed 37 = .ok (.lstore 7, 2) := by decide +kernel
theorem dX9_missed_39 : decode cX9_missed 39 = .ok (.iconst 0, 1) := by decide +kernel
theorem dX9_missed_40 : decode cX9_missed 40 = .ok (.istore 9, 2) := by decide +kernel
theorem dX9_missed_42 : decode cX9_missed 42 = .ok (.iload 9, 2) := by decide +kernel
theorem dX9_missed_44 : decode cX9_missed 44 = .ok (.aload_n 0, 1) := by decide +kernel
theorem dX9_missed_45 : decode cX9_missed 45 = .ok (.getfield 120, 3) := by decide +kernel
theorem dX9_missed_48 : decode cX9_missed 48 = .ok (.if_icmp .ge 98, 3) := by decide +kernel
theorem dX9_missed_51 : decode cX9_missed 51 = .ok (.iload 4, 2) := by decide +kernel
theorem dX9_missed_53 : decode cX9_missed 53 = .ok (.ifCond .ne 93, 3) := by decide +kernel
theorem dX9_missed_56 : decode cX9_missed 56 = .ok (.aload_n 0, 1) := by decide +kernel
theorem dX9_missed_57 : decode cX9_missed 57 = .ok (.invokevirtual 230, 3) := by decide +kernel
theorem dX9_missed_60 : decode cX9_missed 60 = .ok (.aload_n 0, 1) := by decide +kernel
theorem dX9_missed_61 : decode cX9_missed 61 = .ok (.dup, 1) := by decide +kernel
theorem dX9_missed_62 : decode cX9_missed 62 = .ok (.getfield 223, 3) := by decide +kernel
theorem dX9_missed_65 : decode cX9_missed 65 = .ok (.iconst 1, 1) := by decide +kernel
theorem dX9_missed_66 : decode cX9_missed 66 = .ok (.iload 9, 2) := by decide +kernel
theorem dX9_missed_68 : decode cX9_missed 68 = .ok (.ishl, 1) := by decide +kernel
theorem dX9_missed_69 : decode cX9_missed 69 = .ok (.iconst (-1), 1) := by decide +kernel
theorem dX9_missed_70 : decode cX9_missed 70 = .ok (.ixor, 1) := by decide +kernel
theorem dX9_missed_71 : decode cX9_missed 71 = .ok (.iand, 1) := by decide +kernel
theorem dX9_missed_72 : decode cX9_missed 72 = .ok (.putfield 223, 3) := by decide +kernel
theorem dX9_missed_75 : decode cX9_missed 75 = .ok (.aload_n 0, 1) := by decide +kernel
theorem dX9_missed_76 : decode cX9_missed 76 = .ok (.iload_n 1, 1) := by decide +kernel
theorem dX9_missed_77 : decode cX9_missed 77 = .ok (.iload_n 2, 1) := by decide +kernel
theorem dX9_missed_78 : decode cX9_missed 78 = .ok (.invokevirtual 303, 3) := by decide +kernel
theorem dX9_missed_81 : decode cX9_missed 81 = .ok (.istore 10, 2) := by decide +kernel
theorem dX9_missed_83 : decode cX9_missed 83 = .ok (.iload 10, 2) := by decide +kernel
theorem dX9_missed_85 : decode cX9_missed 85 = .ok (.ifCond .eq 28, 3) := by decide +kernel
theorem dX9_missed_88 : decode cX9_missed 88 = .ok (.iload_n 3, 1) := by decide +kernel
theorem dX9_missed_89 : decode cX9_missed 89 = .ok (.ifCond .lt 24, 3) := by decide +kernel
theorem dX9_missed_92 : decode cX9_missed 92 = .ok (.lload 5, 2) := by decide +kernel
theorem dX9_missed_94 : decode cX9_missed 94 = .ok (.lload 7, 2) := by decide +kernel
theorem dX9_missed_96 : decode cX9_missed 96 = .ok (.aload_n 0, 1) := by decide +kernel
theorem dX9_missed_97 : decode cX9_missed 97 = .ok (.getfield 248, 3) := by decide +kernel
theorem dX9_missed_100 : decode cX9_missed 100 = .ok (.aload_n 0, 1) := by decide +kernel
theorem dX9_missed_101 : decode cX9_missed 101 = .ok (.getfield 252, 3) := by decide +kernel
theorem dX9_missed_104 : decode cX9_missed 104 = .ok (.invokestatic 306, 3) := by decide +kernel
theorem dX9_missed_107 : decode cX9_missed 107 = .ok (.ifCond .ne 6, 3) := by decide +kernel
theorem dX9_missed_110 : decode cX9_missed 110 = .ok (.goto 30, 3) := by decide +kernel
theorem dX9_missed_113 : decode cX9_missed 113 = .ok (.iload 10, 2) := by decide +kernel
theorem dX9_missed_115 : decode cX9_missed 115 = .ok (.ifCond .ne 7, 3) := by decide +kernel
theorem dX9_missed_118 : decode cX9_missed 118 = .ok (.iconst 1, 1) := by decide +kernel
theorem dX9_missed_119 : decode cX9_missed 119 = .ok (.goto 4, 3) := by decide +kernel
theorem dX9_missed_122 : decode cX9_missed 122 = .ok (.iconst 0, 1) := by decide +kernel
theorem dX9_missed_123 : decode cX9_missed 123 = .ok (.istore 4, 2) := by decide +kernel
theorem dX9_missed_125 : decode cX9_missed 125 = .ok (.iload 9, 2) := by decide +kernel
theorem dX9_missed_127 : decode cX9_missed 127 = .ok (.istore_n 3, 1) := by decide +kernel
theorem dX9_missed_128 : decode cX9_missed 128 = .ok (.aload_n 0, 1) := by decide +kernel
theorem dX9_missed_129 : decode cX9_missed 129 = .ok (.getfield 248, 3) := by decide +kernel
theorem dX9_missed_132 : decode cX9_missed 132 = .ok (.lstore 5, 2) := by decide +kernel
theorem dX9_missed_134 : decode cX9_missed 134 = .ok (.aload_n 0, 1) := by decide +kernel
theorem dX9_missed_135 : decode cX9_missed 135 = .ok (.getfield 252, 3) := by decide +kernel
theorem dX9_missed_138 : decode cX9_missed 138 = .ok (.lstore 7, 2) := by decide +kernel
theorem dX9_missed_140 : decode cX9_missed 140 = .ok (.iinc 9 1, 3) := by decide +kernel
theorem dX9_missed_143 : decode cX9_missed 143 = .ok (.goto (-101), 3) := by decide +kernel
theorem dX9_missed_146 : decode cX9_missed 146 = .ok (.iload_n 3, 1) := by decide +kernel
theorem dX9_missed_147 : decode cX9_missed 147 = .ok (.ireturn, 1) := by decide +kernel
theorem dX9_bridges_0 : decode cX9_bridges 0 = .ok (.aload_n 0, 1) := by decide +kernel
theorem dX9_bridges_1 : decode cX9_bridges 1 = .ok (.iload_n 1, 1) := by decide +kernel
theorem dX9_bridges_2 : decode cX9_bridges 2 = .ok (.invokevirtual 141, 3) := by decide +kernel
theorem dX9_bridges_5 : decode cX9_bridges 5 = .ok (.ifCond .eq 16, 3) := by decide +kernel
theorem dX9_bridges_8 : decode cX9_bridges 8 = .ok (.aload_n 0, 1) := by decide +kernel
theorem dX9_bridges_9 : decode cX9_bridges 9 = .ok (.iload_n 2, 1) := by decide +kernel
theorem dX9_bridges_10 : decode cX9_bridges 10 = .ok (.invokevirtual 141, 3) := by decide +kernel
theorem dX9_bridges_13 : decode cX9_bridges 13 = .ok (.ifCond .eq 8, 3) := by decide +kernel
theorem dX9_bridges_16 : decode cX9_bridges 16 = .ok (.iload_n 1, 1) := by decide +kernel
theorem dX9_bridges_17 : decode cX9_bridges 17 = .ok (.iload_n 2, 1) := by decide +kernel
theorem dX9_bridges_18 : decode cX9_bridges 18 = .ok (.if_icmp .ne 9, 3) := by decide +kernel
theorem dX9_bridges_21 : decode cX9_bridges 21 = .ok (.aload_n 0, 1) := by decide +kernel
theorem dX9_bridges_22 : decode cX9_bridges 22 = .ok (.iconst (-1), 1) := by decide +kernel
theorem dX9_bridges_23 : decode cX9_bridges 23 = .ok (.invokevirtual 125, 3) := by decide +kernel
theorem dX9_bridges_26 : decode cX9_bridges 26 = .ok (.ireturn, 1) := by decide +kernel
theorem dX9_bridges_27 : decode cX9_bridges 27 = .ok (.aload_n 0, 1) := by decide +kernel
theorem dX9_bridges_28 : decode cX9_bridges 28 = .ok (.invokevirtual 230, 3) := by decide +kernel
theorem dX9_bridges_31 : decode cX9_bridges 31 = .ok (.aload_n 0, 1) := by decide +kernel
theorem dX9_bridges_32 : decode cX9_bridges 32 = .ok (.iload_n 1, 1) := by decide +kernel
theorem dX9_bridges_33 : decode cX9_bridges 33 = .ok (.invokevirtual 233, 3) := by decide +kernel
theorem dX9_bridges_36 : decode cX9_bridges 36 = .ok (.iload_n 2, 1) := by decide +kernel
theorem dX9_bridges_37 : decode cX9_bridges 37 = .ok (.invokestatic 226, 3) := by decide +kernel
theorem dX9_bridges_40 : decode cX9_bridges 40 = .ok (.ifCond .ne 10, 3) := by decide +kernel
theorem dX9_bridges_43 : decode cX9_bridges 43 = .ok (.aload_n 0, 1) := by decide +kernel
theorem dX9_bridges_44 : decode cX9_bridges 44 = .ok (.bipush (-3), 2) := by decide +kernel
theorem dX9_bridges_46 : decode cX9_bridges 46 = .ok (.invokevirtual 125, 3) := by decide +kernel
theorem dX9_bridges_49 : decode cX9_bridges 49 = .ok (.ireturn, 1) := by decide +kernel
theorem dX9_bridges_50 : decode cX9_bridges 50 = .ok (.iconst 0, 1) := by decide +kernel
theorem dX9_bridges_51 : decode cX9_bridges 51 = .ok (.istore_n 3, 1) := by decide +kernel
theorem dX9_bridges_52 : decode cX9_bridges 52 = .ok (.iconst 0, 1) := by decide +kernel
theorem dX9_bridges_53 : decode cX9_bridges 53 = .ok (.istore 4, 2) := by decide +kernel
theorem dX9_bridges_55 : decode cX9_bridges 55 = .ok (.iload 4, 2) := by decide +kernel
theorem dX9_bridges_57 : decode cX9_bridges 57 = .ok (.aload_n 0, 1) := by decide +kernel
theorem dX9_bridges_58 : decode cX9_bridges 58 = .ok (.getfield 120, 3) := by decide +kernel
theorem dX9_bridges_61 : decode cX9_bridges 61 = .ok (.if_icmp .ge 51, 3) := by decide +kernel
theorem dX9_bridges_64 : decode cX9_bridges 64 = .ok (.aload_n 0, 1) := by decide +kernel
theorem dX9_bridges_65 : decode cX9_bridges 65 = .ok (.iconst 1, 1) := by decide +kernel
theorem dX9_bridges_66 : decode cX9_bridges 66 = .ok (.aload_n 0, 1) := by decide +kernel
theorem dX9_bridges_67 : decode cX9_bridges 67 = .ok (.getfield 120, 3) := by decide +kernel
theorem dX9_bridges_70 : decode cX9_bridges 70 = .ok (.ishl, 1) := by decide +kernel
theorem dX9_bridges_71 : decode cX9_bridges 71 = .ok (.iconst 1, 1) := by decide +kernel
theorem dX9_bridges_72 : decode cX9_bridges 72 = .ok (.isub, 1) := by decide +kernel
theorem dX9_bridges_73 : decode cX9_bridges 73 = .ok (.iconst 1, 1) := by decide +kernel
theorem dX9_bridges_74 : decode cX9_bridges 74 = .ok (.iload 4, 2) := by decide +kernel
theorem dX9_bridges_76 : decode cX9_bridges 76 = .ok (.ishl, 1) := by decide +kernel
theorem dX9_bridges_77 : decode cX9_bridges 77 = .ok (.iconst (-1), 1) := by decide +kernel
theorem dX9_bridges_78 : decode cX9_bridges 78 = .ok (.ixor, 1) := by decide +kernel
theorem dX9_bridges_79 : decode cX9_bridges 79 = .ok (.iand, 1) := by decide +kernel
theorem dX9_bridges_80 : decode cX9_bridges 80 = .ok (.putfield 223, 3) := by decide +kernel
theorem dX9_bridges_83 : decode cX9_bridges 83 = .ok (.iload_n 3, 1) := by decide +kernel
theorem dX9_bridges_84 : decode cX9_bridges 84 = .ok (.aload_n 0, 1) := by decide +kernel
theorem dX9_bridges_85 : decode cX9_bridges 85 = .ok (.iload_n 1, 1) := by decide +kernel
theorem dX9_bridges_86 : decode cX9_bridges 86 = .ok (.invokevirtual 233, 3) := by decide +kernel
theorem dX9_bridges_89 : decode cX9_bridges 89 = .ok (.iload_n 2, 1) := by decide +kernel
theorem dX9_bridges_90 : decode cX9_bridges 90 = .ok (.invokestatic 226, 3) := by decide +kernel
theorem dX9_bridges_93 : decode cX9_bridges 93 = .ok (.ifCond .eq 7, 3) := by decide +kernel
theorem dX9_bridges_96 : decode cX9_bridges 96 = .ok (.iconst 0, 1) := by decide +kernel
theorem dX9_bridges_97 : decode cX9_bridges 97 = .ok (.goto 7, 3) := by decide +kernel
theorem dX9_bridges_100 : decode cX9_bridges 100 = .ok (.iconst 1, 1) := by decide +kernel
theorem dX9_bridges_101 : decode cX9_bridges 101 = .ok (.iload 4, 2) := by decide +kernel
theorem dX9_bridges_103 : decode cX9_bridges 103 = .ok (.ishl, 1) := by decide +kernel
theorem dX9_bridges_104 : decode cX9_bridges 104 = .ok (.ior, 1) := by decide +kernel
theorem dX9_bridges_105 : decode cX9_bridges 105 = .ok (.istore_n 3, 1) := by decide +kernel
theorem dX9_bridges_106 : decode cX9_bridges 106 = .ok (.iinc 4 1, 3) := by decide +kernel
theorem dX9_bridges_109 : decode cX9_bridges 109 = .ok (.goto (-54), 3) := by decide +kernel
theorem dX9_bridges_112 : decode cX9_bridges 112 = .ok (.iload_n 3, 1) := by decide +kernel
theorem dX9_bridges_113 : decode cX9_bridges 113 = .ok (.ireturn, 1) := by decide +kernel
theorem dX9_farthest_0 : decode cX9_farthest 0 = .ok (.aload_n 0, 1) := by decide +kernel
theorem dX9_farthest_1 : decode cX9_farthest 1 = .ok (.iload_n 1, 1) := by decide +kernel
theorem dX9_farthest_2 : decode cX9_farthest 2 = .ok (.invokevirtual 141, 3) := by decide +kernel
theorem dX9_farthest_5 : decode cX9_farthest 5 = .ok (.ifCond .ne 9, 3) := by decide +kernel
theorem dX9_farthest_8 : decode cX9_farthest 8 = .ok (.aload_n 0, 1) := by decide +kernel
theorem dX9_farthest_9 : decode cX9_farthest 9 = .ok (.iconst (-1), 1) := by decide +kernel
theorem dX9_farthest_10 : decode cX9_farthest 10 = .ok (.invokevirtual 125, 3) := by decide +kernel
theorem dX9_farthest_13 : decode cX9_farthest 13 = .ok (.ireturn, 1) := by decide +kernel
theorem dX9_farthest_14 : decode cX9_farthest 14 = .ok (.aload_n 0, 1) := by decide +kernel
theorem dX9_farthest_15 : decode cX9_farthest 15 = .ok (.invokevirtual 230, 3) := by decide +kernel
theorem dX9_farthest_18 : decode cX9_farthest 18 = .ok (.bipush (-9), 2) := by decide +kernel
theorem dX9_farthest_20 : decode cX9_farthest 20 = .ok (.istore_n 2, 1) := by decide +kernel
theorem dX9_farthest_21 : decode cX9_farthest 21 = .ok (.lconst 0, 1) := by decide +kernel
theorem dX9_farthest_22 : decode cX9_farthest 22 = .ok (.lstore_n 3, 1) := by decide +kernel
theorem dX9_farthest_23 : decode cX9_farthest 23 = .ok (.iconst 0, 1) := by decide +kernel
theorem dX9_farthest_24 : decode cX9_farthest 24 = .ok (.istore 5, 2) := by decide +kernel
theorem dX9_farthest_26 : decode cX9_farthest 26 = .ok (.iload 5, 2) := by decide +kernel
theorem dX9_farthest_28 : decode cX9_farthest 28 = .ok (.aload_n 0, 1) := by decide +kernel
theorem dX9_farthest_29 : decode cX9_farthest 29 = .ok (.getfield 7, 3) := by decide +kernel
theorem dX9_farthest_32 : decode cX9_farthest 32 = .ok (.if_icmp .ge 50, 3) := by decide +kernel
theorem dX9_farthest_35 : decode cX9_farthest 35 = .ok (.iload 5, 2) := by decide +kernel
theorem dX9_farthest_37 : decode cX9_farthest 37 = .ok (.iload_n 1, 1) := by decide +kernel
theorem dX9_farthest_38 : decode cX9_farthest 38 = .ok (.if_icmp .eq 38, 3) := by decide +kernel
theorem dX9_farthest_41 : decode cX9_farthest 41 = .ok (.aload_n 0, 1) := by decide +kernel
theorem dX9_farthest_42 : decode cX9_farthest 42 = .ok (.iload_n 1, 1) := by decide +kernel
theorem dX9_farthest_43 : decode cX9_farthest 43 = .ok (.iload 5, 2) := by decide +kernel
theorem dX9_farthest_45 : decode cX9_farthest 45 = .ok (.iconst 0, 1) := by decide +kernel
theorem dX9_farthest_46 : decode cX9_farthest 46 = .ok (.invokevirtual 275, 3) := by decide +kernel
theorem dX9_farthest_49 : decode cX9_farthest 49 = .ok (.ifCond .eq 27, 3) := by decide +kernel
theorem dX9_farthest_52 : decode cX9_farthest 52 = .ok (.iload_n 2, 1) := by decide +kernel
theorem dX9_farthest_53 : decode cX9_farthest 53 = .ok (.ifCond .lt 15, 3) := by decide +kernel
theorem dX9_farthest_56 : decode cX9_farthest 56 = .ok (.aload_n 0, 1) := by decide +kernel
theorem dX9_farthest_57 : decode cX9_farthest 57 = .ok (.getfield 248, 3) := by decide +kernel
theorem dX9_farthest_60 : decode cX9_farthest 60 = .ok (.lload_n 3, 1) := by decide +kernel
theorem dX9_farthest_61 : decode cX9_farthest 61 = .ok (.lcmp, 1) := by decide +kernel
theorem dX9_farthest_62 : decode cX9_farthest 62 = .ok (.ifCond .gt 6, 3) := by decide +kernel
theorem dX9_farthest_65 : decode cX9_farthest 65 = .ok (.goto 11, 3) := by decide +kernel
theorem dX9_farthest_68 : decode cX9_farthest 68 = .ok (.iload 5, 2) := by decide +kernel
theorem dX9_farthest_70 : decode cX9_farthest 70 = .ok (.istore_n 2, 1) := by decide +kernel
theorem dX9_farthest_71 : decode cX9_farthest 71 = .ok (.aload_n 0, 1) := by decide +kernel
theorem dX9_farthest_72 : decode cX9_farthest 72 = .ok (.getfield 248, 3) := by decide +kernel
theorem dX9_farthest_75 : decode cX9_farthest 75 = .ok (.lstore_n 3, 1) := by decide +kernel
theorem dX9_farthest_76 : decode cX9_farthest 76 = .ok (.iinc 5 1, 3) := by decide +kernel
theorem dX9_farthest_79 : decode cX9_farthest 79 = .ok (.goto (-53), 3) := by decide +kernel
theorem dX9_farthest_82 : decode cX9_farthest 82 = .ok (.iload_n 2, 1) := by decide +kernel
theorem dX9_farthest_83 : decode cX9_farthest 83 = .ok (.ireturn, 1) := by decide +kernel
theorem dX9_middle_0 : decode cX9_middle 0 = .ok (.aload_n 0, 1) := by decide +kernel
theorem dX9_middle_1 : decode cX9_middle 1 = .ok (.invokevirtual 230, 3) := by decide +kernel
theorem dX9_middle_4 : decode cX9_middle 4 = .ok (.aload_n 0, 1) := by decide +kernel
theorem dX9_middle_5 : decode cX9_middle 5 = .ok (.iconst 0, 1) := by decide +kernel
theorem dX9_middle_6 : decode cX9_middle 6 = .ok (.invokevirtual 233, 3) := by decide +kernel
theorem dX9_middle_9 : decode cX9_middle 9 = .ok (.iconst 1, 1) := by decide +kernel
theorem dX9_middle_10 : decode cX9_middle 10 = .ok (.aload_n 0, 1) := by decide +kernel
theorem dX9_middle_11 : decode cX9_middle 11 = .ok (.getfield 7, 3) := by decide +kernel
theorem dX9_middle_14 : decode cX9_middle 14 = .ok (.ishl, 1) := by decide +kernel
theorem dX9_middle_15 : decode cX9_middle 15 = .ok (.iconst 1, 1) := by decide +kernel
theorem dX9_middle_16 : decode cX9_middle 16 = .ok (.isub, 1) := by decide +kernel
theorem dX9_middle_17 : decode cX9_middle 17 = .ok (.if_icmp .eq 6, 3) := by decide +kernel
theorem dX9_middle_20 : decode cX9_middle 20 = .ok (.bipush (-9), 2) := by decide +kernel
theorem dX9_middle_22 : decode cX9_middle 22 = .ok (.ireturn, 1) := by decide +kernel
theorem dX9_middle_23 : decode cX9_middle 23 = .ok (.bipush (-9), 2) := by decide +kernel
theorem dX9_middle_25 : decode cX9_middle 25 = .ok (.istore_n 1, 1) := by decide +kernel
theorem dX9_middle_26 : decode cX9_middle 26 = .ok (.lconst 0, 1) := by decide +kernel
theorem dX9_middle_27 : decode cX9_middle 27 = .ok (.lstore_n 2, 1) := by decide +kernel
theorem dX9_middle_28 : decode cX9_middle 28 = .ok (.iconst 0, 1) := by decide +kernel
theorem dX9_middle_29 : decode cX9_middle 29 = .ok (.istore 4, 2) := by decide +kernel
theorem dX9_middle_31 : decode cX9_middle 31 = .ok (.iload 4, 2) := by decide +kernel
theorem dX9_middle_33 : decode cX9_middle 33 = .ok (.aload_n 0, 1) := by decide +kernel
theorem dX9_middle_34 : decode cX9_middle 34 = .ok (.getfield 7, 3) := by decide +kernel
theorem dX9_middle_37 : decode cX9_middle 37 = .ok (.if_icmp .ge 69, 3) := by decide +kernel
theorem dX9_middle_40 : decode cX9_middle 40 = .ok (.lconst 0, 1) := by decide +kernel
theorem dX9_middle_41 : decode cX9_middle 41 = .ok (.lstore 5, 2) := by decide +kernel
theorem dX9_middle_43 : decode cX9_middle 43 = .ok (.iconst 0, 1) := by decide +kernel
theorem dX9_middle_44 : decode cX9_middle 44 = .ok (.istore 7, 2) := by decide +kernel
theorem dX9_middle_46 : decode cX9_middle 46 = .ok (.iload 7, 2) := by decide +kernel
theorem dX9_middle_48 : decode cX9_middle 48 = .ok (.aload_n 0, 1) := by decide +kernel
theorem dX9_middle_49 : decode cX9_middle 49 = .ok (.getfield 7, 3) := by decide +kernel
theorem dX9_middle_52 : decode cX9_middle 52 = .ok (.if_icmp .ge 28, 3) := by decide +kernel
theorem dX9_middle_55 : decode cX9_middle 55 = .ok (.aload_n 0, 1) := by decide +kernel
theorem dX9_middle_56 : decode cX9_middle 56 = .ok (.iload 4, 2) := by decide +kernel
theorem dX9_middle_58 : decode cX9_middle 58 = .ok (.iload 7, 2) := by decide +kernel
theorem dX9_middle_60 : decode cX9_middle 60 = .ok (.iconst 0, 1) := by decide +kernel
theorem dX9_middle_61 : decode cX9_middle 61 = .ok (.invokevirtual 275, 3) := by decide +kernel
theorem dX9_middle_64 : decode cX9_middle 64 = .ok (.pop, 1) := by decide +kernel
theorem dX9_middle_65 : decode cX9_middle 65 = .ok (.lload 5, 2) := by decide +kernel
theorem dX9_middle_67 : decode cX9_middle 67 = .ok (.aload_n 0, 1) := by decide +kernel
theorem dX9_middle_68 : decode cX9_middle 68 = .ok (.getfield 248, 3) := by decide +kernel
theorem dX9_middle_71 : decode cX9_middle 71 = .ok (.ladd, 1) := by decide +kernel
theorem dX9_middle_72 : decode cX9_middle 72 = .ok (.lstore 5, 2) := by decide +kernel
theorem dX9_middle_74 : decode cX9_middle 74 = .ok (.iinc 7 1, 3) := by decide +kernel
theorem dX9_middle_77 : decode cX9_middle 77 = .ok (.goto (-31), 3) := by decide +kernel
theorem dX9_middle_80 : decode cX9_middle 80 = .ok (.iload_n 1, 1) := by decide +kernel
theorem dX9_middle_81 : decode cX9_middle 81 = .ok (.ifCond .lt 13, 3) := by decide +kernel
theorem dX9_middle_84 : decode cX9_middle 84 = .ok (.lload 5, 2) := by decide +kernel
theorem dX9_middle_86 : decode cX9_middle 86 = .ok (.lload_n 2, 1) := by decide +kernel
theorem dX9_middle_87 : decode cX9_middle 87 = .ok (.lcmp, 1) := by decide +kernel
theorem dX9_middle_88 : decode cX9_middle 88 = .ok (.ifCond .lt 6, 3) := by decide +kernel
theorem dX9_middle_91 : decode cX9_middle 91 = .ok (.goto 9, 3) := by decide +kernel
theorem dX9_middle_94 : decode cX9_middle 94 = .ok (.iload 4, 2) := by decide +kernel
theorem dX9_middle_96 : decode cX9_middle 96 = .ok (.istore_n 1, 1) := by decide +kernel
theorem dX9_middle_97 : decode cX9_middle 97 = .ok (.lload 5, 2) := by decide +kernel
theorem dX9_middle_99 : decode cX9_middle 99 = .ok (.lstore_n 2, 1) := by decide +kernel
theorem dX9_middle_100 : decode cX9_middle 100 = .ok (.iinc 4 1, 3) := by decide +kernel
theorem dX9_middle_103 : decode cX9_middle 103 = .ok (.goto (-72), 3) := by decide +kernel
theorem dX9_middle_106 : decode cX9_middle 106 = .ok (.iload_n 1, 1) := by decide +kernel
theorem dX9_middle_107 : decode cX9_middle 107 = .ok (.ireturn, 1) := by decide +kernel
theorem dX9_notDoubt_0 : decode cX9_notDoubt 0 = .ok (.aload_n 0, 1) := by decide +kernel
theorem dX9_notDoubt_1 : decode cX9_notDoubt 1 = .ok (.iload_n 1, 1) := by decide +kernel
theorem dX9_notDoubt_2 : decode cX9_notDoubt 2 = .ok (.invokevirtual 141, 3) := by decide +kernel
theorem dX9_notDoubt_5 : decode cX9_notDoubt 5 = .ok (.ifCond .eq 11, 3) := by decide +kernel
theorem dX9_notDoubt_8 : decode cX9_notDoubt 8 = .ok (.aload_n 0, 1) := by decide +kernel
theorem dX9_notDoubt_9 : decode cX9_notDoubt 9 = .ok (.iload_n 2, 1) := by decide +kernel
theorem dX9_notDoubt_10 : decode cX9_notDoubt 10 = .ok (.invokevirtual 141, 3) := by decide +kernel
theorem dX9_notDoubt_13 : decode cX9_notDoubt 13 = .ok (.ifCond .ne 5, 3) := by decide +kernel
theorem dX9_notDoubt_16 : decode cX9_notDoubt 16 = .ok (.iconst (-1), 1) := by decide +kernel
theorem dX9_notDoubt_17 : decode cX9_notDoubt 17 = .ok (.ireturn, 1) := by decide +kernel
theorem dX9_notDoubt_18 : decode cX9_notDoubt 18 = .ok (.iload_n 3, 1) := by decide +kernel
theorem dX9_notDoubt_19 : decode cX9_notDoubt 19 = .ok (.iconst 2, 1) := by decide +kernel
theorem dX9_notDoubt_20 : decode cX9_notDoubt 20 = .ok (.if_icmp .lt 8, 3) := by decide +kernel
theorem dX9_notDoubt_23 : decode cX9_notDoubt 23 = .ok (.iload 4, 2) := by decide +kernel
theorem dX9_notDoubt_25 : decode cX9_notDoubt 25 = .ok (.ifCond .ge 6, 3) := by decide +kernel
theorem dX9_notDoubt_28 : decode cX9_notDoubt 28 = .ok (.bipush (-4), 2) := by decide +kernel
theorem dX9_notDoubt_30 : decode cX9_notDoubt 30 = .ok (.ireturn, 1) := by decide +kernel
theorem dX9_notDoubt_31 : decode cX9_notDoubt 31 = .ok (.iload_n 3, 1) := by decide +kernel
theorem dX9_notDoubt_32 : decode cX9_notDoubt 32 = .ok (.bipush 20, 2) := by decide +kernel
theorem dX9_notDoubt_34 : decode cX9_notDoubt 34 = .ok (.if_icmp .gt 11, 3) := by decide +kernel
theorem dX9_notDoubt_37 : decode cX9_notDoubt 37 = .ok (.iload 4, 2) := by decide +kernel
theorem dX9_notDoubt_39 : decode cX9_notDoubt 39 = .ok (.sipush 999, 3) := by decide +kernel
theorem dX9_notDoubt_42 : decode cX9_notDoubt 42 = .ok (.if_icmp .le 6, 3) := by decide +kernel
theorem dX9_notDoubt_45 : decode cX9_notDoubt 45 = .ok (.bipush (-6), 2) := by decide +kernel
theorem dX9_notDoubt_47 : decode cX9_notDoubt 47 = .ok (.ireturn, 1) := by decide +kernel
theorem dX9_notDoubt_48 : decode cX9_notDoubt 48 = .ok (.iload 5, 2) := by decide +kernel
theorem dX9_notDoubt_50 : decode cX9_notDoubt 50 = .ok (.i2l, 1) := by decide +kernel
theorem dX9_notDoubt_51 : decode cX9_notDoubt 51 = .ok (.lconst 0, 1) := by decide +kernel
theorem dX9_notDoubt_52 : decode cX9_notDoubt 52 = .ok (.lconst 1, 1) := by decide +kernel
theorem dX9_notDoubt_53 : decode cX9_notDoubt 53 = .ok (.invokestatic 116, 3) := by decide +kernel
theorem dX9_notDoubt_56 : decode cX9_notDoubt 56 = .ok (.ifCond .eq 7, 3) := by decide +kernel
theorem dX9_notDoubt_59 : decode cX9_notDoubt 59 = .ok (.iconst 0, 1) := by decide +kernel
theorem dX9_notDoubt_60 : decode cX9_notDoubt 60 = .ok (.goto 5, 3) := by decide +kernel
theorem dX9_notDoubt_63 : decode cX9_notDoubt 63 = .ok (.bipush (-2), 2) := by decide +kernel
theorem dX9_notDoubt_65 : decode cX9_notDoubt 65 = .ok (.ireturn, 1) := by decide +kernel
theorem dX9_doubted_0 : decode cX9_doubted 0 = .ok (.aload_n 0, 1) := by decide +kernel
theorem dX9_doubted_1 : decode cX9_doubted 1 = .ok (.getfield 120, 3) := by decide +kernel
theorem dX9_doubted_4 : decode cX9_doubted 4 = .ok (.bipush 6, 2) := by decide +kernel
theorem dX9_doubted_6 : decode cX9_doubted 6 = .ok (.if_icmp .ge 10, 3) := by decide +kernel
theorem dX9_doubted_9 : decode cX9_doubted 9 = .ok (.aload_n 0, 1) := by decide +kernel
theorem dX9_doubted_10 : decode cX9_doubted 10 = .ok (.getfield 120, 3) := by decide +kernel
theorem dX9_doubted_13 : decode cX9_doubted 13 = .ok (.goto 5, 3) := by decide +kernel
theorem dX9_doubted_16 : decode cX9_doubted 16 = .ok (.bipush 6, 2) := by decide +kernel
theorem dX9_doubted_18 : decode cX9_doubted 18 = .ok (.istore 6, 2) := by decide +kernel
theorem dX9_doubted_20 : decode cX9_doubted 20 = .ok (.lconst 0, 1) := by decide +kernel
theorem dX9_doubted_21 : decode cX9_doubted 21 = .ok (.lstore 7, 2) := by decide +kernel
theorem dX9_doubted_23 : decode cX9_doubted 23 = .ok (.lconst 1, 1) := by decide +kernel
theorem dX9_doubted_24 : decode cX9_doubted 24 = .ok (.lstore 9, 2) := by decide +kernel
theorem dX9_doubted_26 : decode cX9_doubted 26 = .ok (.iconst 0, 1) := by decide +kernel
theorem dX9_doubted_27 : decode cX9_doubted 27 = .ok (.istore 11, 2) := by decide +kernel
theorem dX9_doubted_29 : decode cX9_doubted 29 = .ok (.iload 11, 2) := by decide +kernel
theorem dX9_doubted_31 : decode cX9_doubted 31 = .ok (.iload 6, 2) := by decide +kernel
theorem dX9_doubted_33 : decode cX9_doubted 33 = .ok (.if_icmp .ge 16, 3) := by decide +kernel
theorem dX9_doubted_36 : decode cX9_doubted 36 = .ok (.lload 9, 2) := by decide +kernel
theorem dX9_doubted_38 : decode cX9_doubted 38 = .ok (.iload_n 3, 1) := by decide +kernel
theorem dX9_doubted_39 : decode cX9_doubted 39 = .ok (.i2l, 1) := by decide +kernel
theorem dX9_doubted_40 : decode cX9_doubted 40 = .ok (.lmul, 1) := by decide +kernel
theorem dX9_doubted_41 : decode cX9_doubted 41 = .ok (.lstore 9, 2) := by decide +kernel
theorem dX9_doubted_43 : decode cX9_doubted 43 = .ok (.iinc 11 1, 3) := by decide +kernel
theorem dX9_doubted_46 : decode cX9_doubted 46 = .ok (.goto (-17), 3) := by decide +kernel
theorem dX9_doubted_49 : decode cX9_doubted 49 = .ok (.iconst 0, 1) := by decide +kernel
theorem dX9_doubted_50 : decode cX9_doubted 50 = .ok (.istore 11, 2) := by decide +kernel
theorem dX9_doubted_52 : decode cX9_doubted 52 = .ok (.iload 11, 2) := by decide +kernel
theorem dX9_doubted_54 : decode cX9_doubted 54 = .ok (.iconst 1, 1) := by decide +kernel
theorem dX9_doubted_55 : decode cX9_doubted 55 = .ok (.iload 6, 2) := by decide +kernel
theorem dX9_doubted_57 : decode cX9_doubted 57 = .ok (.ishl, 1) := by decide +kernel
theorem dX9_doubted_58 : decode cX9_doubted 58 = .ok (.if_icmp .ge 138, 3) := by decide +kernel
theorem dX9_doubted_61 : decode cX9_doubted 61 = .ok (.aload_n 0, 1) := by decide +kernel
theorem dX9_doubted_62 : decode cX9_doubted 62 = .ok (.invokevirtual 230, 3) := by decide +kernel
theorem dX9_doubted_65 : decode cX9_doubted 65 = .ok (.aload_n 0, 1) := by decide +kernel
theorem dX9_doubted_66 : decode cX9_doubted 66 = .ok (.aload_n 0, 1) := by decide +kernel
theorem dX9_doubted_67 : decode cX9_doubted 67 = .ok (.getfield 223, 3) := by decide +kernel
theorem dX9_doubted_70 : decode cX9_doubted 70 = .ok (.iload 6, 2) := by decide +kernel
theorem dX9_doubted_72 : decode cX9_doubted 72 = .ok (.ishr, 1) := by decide +kernel
theorem dX9_doubted_73 : decode cX9_doubted 73 = .ok (.iload 6, 2) := by decide +kernel
theorem dX9_doubted_75 : decode cX9_doubted 75 = .ok (.ishl, 1) := by decide +kernel
theorem dX9_doubted_76 : decode cX9_doubted 76 = .ok (.iload 11, 2) := by decide +kernel
theorem dX9_doubted_78 : decode cX9_doubted 78 = .ok (.ior, 1) := by decide +kernel
theorem dX9_doubted_79 : decode cX9_doubted 79 = .ok (.putfield 223, 3) := by decide +kernel
theorem dX9_doubted_82 : decode cX9_doubted 82 = .ok (.iload 4, 2) := by decide +kernel
theorem dX9_doubted_84 : decode cX9_doubted 84 = .ok (.ifCond .ge 15, 3) := by decide +kernel
theorem dX9_doubted_87 : decode cX9_doubted 87 = .ok (.aload_n 0, 1) := by decide +kernel
theorem dX9_doubted_88 : decode cX9_doubted 88 = .ok (.iload_n 1, 1) := by decide +kernel
theorem dX9_doubted_89 : decode cX9_doubted 89 = .ok (.invokevirtual 233, 3) := by decide +kernel
theorem dX9_doubted_92 : decode cX9_doubted 92 = .ok (.iload_n 2, 1) := by decide +kernel
theorem dX9_doubted_93 : decode cX9_doubted 93 = .ok (.invokestatic 226, 3) := by decide +kernel
theorem dX9_doubted_96 : decode cX9_doubted 96 = .ok (.goto 34, 3) := by decide +kernel
theorem dX9_doubted_99 : decode cX9_doubted 99 = .ok (.aload_n 0, 1) := by decide +kernel
theorem dX9_doubted_100 : decode cX9_doubted 100 = .ok (.iload_n 1, 1) := by decide +kernel
theorem dX9_doubted_101 : decode cX9_doubted 101 = .ok (.iload_n 2, 1) := by decide +kernel
theorem dX9_doubted_102 : decode cX9_doubted 102 = .ok (.iconst 0, 1) := by decide +kernel
theorem dX9_doubted_103 : decode cX9_doubted 103 = .ok (.invokevirtual 275, 3) := by decide +kernel
theorem dX9_doubted_106 : decode cX9_doubted 106 = .ok (.ifCond .eq 23, 3) := by decide +kernel
theorem dX9_doubted_109 : decode cX9_doubted 109 = .ok (.aload_n 0, 1) := by decide +kernel
theorem dX9_doubted_110 : decode cX9_doubted 110 = .ok (.getfield 248, 3) := by decide +kernel
theorem dX9_doubted_113 : decode cX9_doubted 113 = .ok (.iload 4, 2) := by decide +kernel
theorem dX9_doubted_115 : decode cX9_doubted 115 = .ok (.i2l, 1) := by decide +kernel
theorem dX9_doubted_116 : decode cX9_doubted 116 = .ok (.aload_n 0, 1) := by decide +kernel
theorem dX9_doubted_117 : decode cX9_doubted 117 = .ok (.getfield 252, 3) := by decide +kernel
theorem dX9_doubted_120 : decode cX9_doubted 120 = .ok (.lmul, 1) := by decide +kernel
theorem dX9_doubted_121 : decode cX9_doubted 121 = .ok (.lcmp, 1) := by decide +kernel
theorem dX9_doubted_122 : decode cX9_doubted 122 = .ok (.ifCond .gt 7, 3) := by decide +kernel
theorem dX9_doubted_125 : decode cX9_doubted 125 = .ok (.iconst 1, 1) := by decide +kernel
theorem dX9_doubted_126 : decode cX9_doubted 126 = .ok (.goto 4, 3) := by decide +kernel
theorem dX9_doubted_129 : decode cX9_doubted 129 = .ok (.iconst 0, 1) := by decide +kernel
theorem dX9_doubted_130 : decode cX9_doubted 130 = .ok (.istore 12, 2) := by decide +kernel
theorem dX9_doubted_132 : decode cX9_doubted 132 = .ok (.lconst 1, 1) := by decide +kernel
theorem dX9_doubted_133 : decode cX9_doubted 133 = .ok (.lstore 13, 2) := by decide +kernel
theorem dX9_doubted_135 : decode cX9_doubted 135 = .ok (.iconst 0, 1) := by decide +kernel
theorem dX9_doubted_136 : decode cX9_doubted 136 = .ok (.istore 15, 2) := by decide +kernel
theorem dX9_doubted_138 : decode cX9_doubted 138 = .ok (.iload 15, 2) := by decide +kernel
theorem dX9_doubted_140 : decode cX9_doubted 140 = .ok (.iload 6, 2) := by decide +kernel
theorem dX9_doubted_142 : decode cX9_doubted 142 = .ok (.if_icmp .ge 32, 3) := by decide +kernel
theorem dX9_doubted_145 : decode cX9_doubted 145 = .ok (.lload 13, 2) := by decide +kernel
theorem dX9_doubted_147 : decode cX9_doubted 147 = .ok (.iload 11, 2) := by decide +kernel
theorem dX9_doubted_149 : decode cX9_doubted 149 = .ok (.iload 15, 2) := by decide +kernel
theorem dX9_doubted_151 : decode cX9_doubted 151 = .ok (.invokestatic 226, 3) := by decide +kernel
theorem dX9_doubted_154 : decode cX9_doubted 154 = .ok (.ifCond .eq 10, 3) := by decide +kernel
theorem dX9_doubted_157 : decode cX9_doubted 157 = .ok (.iload_n 3, 1) := by decide +kernel
theorem dX9_doubted_158 : decode cX9_doubted 158 = .ok (.iconst 1, 1) := by decide +kernel
theorem dX9_doubted_159 : decode cX9_doubted 159 = .ok (.isub, 1) := by decide +kernel
theorem dX9_doubted_160 : decode cX9_doubted 160 = .ok (.i2l, 1) := by decide +kernel
theorem dX9_doubted_161 : decode cX9_doubted 161 = .ok (.goto 4, 3) := by decide +kernel
theorem dX9_doubted_164 : decode cX9_doubted 164 = .ok (.lconst 1, 1) := by decide +kernel
theorem dX9_doubted_165 : decode cX9_doubted 165 = .ok (.lmul, 1) := by decide +kernel
theorem dX9_doubted_166 : decode cX9_doubted 166 = .ok (.lstore 13, 2) := by decide +kernel
theorem dX9_doubted_168 : decode cX9_doubted 168 = .ok (.iinc 15 1, 3) := by decide +kernel
theorem dX9_doubted_171 : decode cX9_doubted 171 = .ok (.goto (-33), 3) := by decide +kernel
theorem dX9_doubted_174 : decode cX9_doubted 174 = .ok (.lload 7, 2) := by decide +kernel
theorem dX9_doubted_176 : decode cX9_doubted 176 = .ok (.iload 12, 2) := by decide +kernel
theorem dX9_doubted_178 : decode cX9_doubted 178 = .ok (.ifCond .eq 8, 3) := by decide +kernel
theorem dX9_doubted_181 : decode cX9_doubted 181 = .ok (.lload 13, 2) := by decide +kernel
theorem dX9_doubted_183 : decode cX9_doubted 183 = .ok (.goto 4, 3) := by decide +kernel
theorem dX9_doubted_186 : decode cX9_doubted 186 = .ok (.lconst 0, 1) := by decide +kernel
theorem dX9_doubted_187 : decode cX9_doubted 187 = .ok (.ladd, 1) := by decide +kernel
theorem dX9_doubted_188 : decode cX9_doubted 188 = .ok (.lstore 7, 2) := by decide +kernel
theorem dX9_doubted_190 : decode cX9_doubted 190 = .ok (.iinc 11 1, 3) := by decide +kernel
theorem dX9_doubted_193 : decode cX9_doubted 193 = .ok (.goto (-141), 3) := by decide +kernel
theorem dX9_doubted_196 : decode cX9_doubted 196 = .ok (.lload 7, 2) := by decide +kernel
theorem dX9_doubted_198 : decode cX9_doubted 198 = .ok (.lload 9, 2) := by decide +kernel
theorem dX9_doubted_200 : decode cX9_doubted 200 = .ok (.iload 5, 2) := by decide +kernel
theorem dX9_doubted_202 : decode cX9_doubted 202 = .ok (.invokestatic 279, 3) := by decide +kernel
theorem dX9_doubted_205 : decode cX9_doubted 205 = .ok (.lreturn, 1) := by decide +kernel
theorem dX9_sure_0 : decode cX9_sure 0 = .ok (.aload_n 0, 1) := by decide +kernel
theorem dX9_sure_1 : decode cX9_sure 1 = .ok (.iload_n 1, 1) := by decide +kernel
theorem dX9_sure_2 : decode cX9_sure 2 = .ok (.iload_n 2, 1) := by decide +kernel
theorem dX9_sure_3 : decode cX9_sure 3 = .ok (.iload_n 3, 1) := by decide +kernel
theorem dX9_sure_4 : decode cX9_sure 4 = .ok (.iconst 0, 1) := by decide +kernel
theorem dX9_sure_5 : decode cX9_sure 5 = .ok (.iload 4, 2) := by decide +kernel
theorem dX9_sure_7 : decode cX9_sure 7 = .ok (.invokevirtual 310, 3) := by decide +kernel
theorem dX9_sure_10 : decode cX9_sure 10 = .ok (.istore 5, 2) := by decide +kernel
theorem dX9_sure_12 : decode cX9_sure 12 = .ok (.iload 5, 2) := by decide +kernel
theorem dX9_sure_14 : decode cX9_sure 14 = .ok (.ifCond .eq 12, 3) := by decide +kernel
theorem dX9_sure_17 : decode cX9_sure 17 = .ok (.aload_n 0, 1) := by decide +kernel
theorem dX9_sure_18 : decode cX9_sure 18 = .ok (.iload 5, 2) := by decide +kernel
theorem dX9_sure_20 : decode cX9_sure 20 = .ok (.invokevirtual 272, 3) := by decide +kernel
theorem dX9_sure_23 : decode cX9_sure 23 = .ok (.goto 13, 3) := by decide +kernel
theorem dX9_sure_26 : decode cX9_sure 26 = .ok (.aload_n 0, 1) := by decide +kernel
theorem dX9_sure_27 : decode cX9_sure 27 = .ok (.iload_n 1, 1) := by decide +kernel
theorem dX9_sure_28 : decode cX9_sure 28 = .ok (.iload_n 2, 1) := by decide +kernel
theorem dX9_sure_29 : decode cX9_sure 29 = .ok (.iload_n 3, 1) := by decide +kernel
theorem dX9_sure_30 : decode cX9_sure 30 = .ok (.iconst (-1), 1) := by decide +kernel
theorem dX9_sure_31 : decode cX9_sure 31 = .ok (.iload 4, 2) := by decide +kernel
theorem dX9_sure_33 : decode cX9_sure 33 = .ok (.invokevirtual 314, 3) := by decide +kernel
theorem dX9_sure_36 : decode cX9_sure 36 = .ok (.lreturn, 1) := by decide +kernel
theorem dX9_fast_0 : decode cX9_fast 0 = .ok (.aload_n 0, 1) := by decide +kernel
theorem dX9_fast_1 : decode cX9_fast 1 = .ok (.iload_n 1, 1) := by decide +kernel
theorem dX9_fast_2 : decode cX9_fast 2 = .ok (.iload_n 2, 1) := by decide +kernel
theorem dX9_fast_3 : decode cX9_fast 3 = .ok (.iload_n 3, 1) := by decide +kernel
theorem dX9_fast_4 : decode cX9_fast 4 = .ok (.iload 4, 2) := by decide +kernel
theorem dX9_fast_6 : decode cX9_fast 6 = .ok (.iload 5, 2) := by decide +kernel
theorem dX9_fast_8 : decode cX9_fast 8 = .ok (.invokevirtual 310, 3) := by decide +kernel
theorem dX9_fast_11 : decode cX9_fast 11 = .ok (.istore 6, 2) := by decide +kernel
theorem dX9_fast_13 : decode cX9_fast 13 = .ok (.iload 6, 2) := by decide +kernel
theorem dX9_fast_15 : decode cX9_fast 15 = .ok (.ifCond .eq 12, 3) := by decide +kernel
theorem dX9_fast_18 : decode cX9_fast 18 = .ok (.aload_n 0, 1) := by decide +kernel
theorem dX9_fast_19 : decode cX9_fast 19 = .ok (.iload 6, 2) := by decide +kernel
theorem dX9_fast_21 : decode cX9_fast 21 = .ok (.invokevirtual 272, 3) := by decide +kernel
theorem dX9_fast_24 : decode cX9_fast 24 = .ok (.goto 14, 3) := by decide +kernel
theorem dX9_fast_27 : decode cX9_fast 27 = .ok (.aload_n 0, 1) := by decide +kernel
theorem dX9_fast_28 : decode cX9_fast 28 = .ok (.iload_n 1, 1) := by decide +kernel
theorem dX9_fast_29 : decode cX9_fast 29 = .ok (.iload_n 2, 1) := by decide +kernel
theorem dX9_fast_30 : decode cX9_fast 30 = .ok (.iload_n 3, 1) := by decide +kernel
theorem dX9_fast_31 : decode cX9_fast 31 = .ok (.iload 4, 2) := by decide +kernel
theorem dX9_fast_33 : decode cX9_fast 33 = .ok (.iload 5, 2) := by decide +kernel
theorem dX9_fast_35 : decode cX9_fast 35 = .ok (.invokevirtual 314, 3) := by decide +kernel
theorem dX9_fast_38 : decode cX9_fast 38 = .ok (.lreturn, 1) := by decide +kernel
theorem dX9_bySteps_0 : decode cX9_bySteps 0 = .ok (.aload_n 0, 1) := by decide +kernel
theorem dX9_bySteps_1 : decode cX9_bySteps 1 = .ok (.iload_n 1, 1) := by decide +kernel
theorem dX9_bySteps_2 : decode cX9_bySteps 2 = .ok (.invokevirtual 141, 3) := by decide +kernel
theorem dX9_bySteps_5 : decode cX9_bySteps 5 = .ok (.ifCond .eq 11, 3) := by decide +kernel
theorem dX9_bySteps_8 : decode cX9_bySteps 8 = .ok (.aload_n 0, 1) := by decide +kernel
theorem dX9_bySteps_9 : decode cX9_bySteps 9 = .ok (.iload_n 2, 1) := by decide +kernel
theorem dX9_bySteps_10 : decode cX9_bySteps 10 = .ok (.invokevirtual 141, 3) := by decide +kernel
theorem dX9_bySteps_13 : decode cX9_bySteps 13 = .ok (.ifCond .ne 9, 3) := by decide +kernel
theorem dX9_bySteps_16 : decode cX9_bySteps 16 = .ok (.aload_n 0, 1) := by decide +kernel
theorem dX9_bySteps_17 : decode cX9_bySteps 17 = .ok (.iconst (-1), 1) := by decide +kernel
theorem dX9_bySteps_18 : decode cX9_bySteps 18 = .ok (.invokevirtual 272, 3) := by decide +kernel
theorem dX9_bySteps_21 : decode cX9_bySteps 21 = .ok (.lreturn, 1) := by decide +kernel
theorem dX9_bySteps_22 : decode cX9_bySteps 22 = .ok (.iload_n 3, 1) := by decide +kernel
theorem dX9_bySteps_23 : decode cX9_bySteps 23 = .ok (.ifCond .ge 10, 3) := by decide +kernel
theorem dX9_bySteps_26 : decode cX9_bySteps 26 = .ok (.aload_n 0, 1) := by decide +kernel
theorem dX9_bySteps_27 : decode cX9_bySteps 27 = .ok (.bipush (-4), 2) := by decide +kernel
theorem dX9_bySteps_29 : decode cX9_bySteps 29 = .ok (.invokevirtual 272, 3) := by decide +kernel
theorem dX9_bySteps_32 : decode cX9_bySteps 32 = .ok (.lreturn, 1) := by decide +kernel
theorem dX9_bySteps_33 : decode cX9_bySteps 33 = .ok (.iload_n 3, 1) := by decide +kernel
theorem dX9_bySteps_34 : decode cX9_bySteps 34 = .ok (.bipush 30, 2) := by decide +kernel
theorem dX9_bySteps_36 : decode cX9_bySteps 36 = .ok (.if_icmp .le 10, 3) := by decide +kernel
theorem dX9_bySteps_39 : decode cX9_bySteps 39 = .ok (.aload_n 0, 1) := by decide +kernel
theorem dX9_bySteps_40 : decode cX9_bySteps 40 = .ok (.bipush (-6), 2) := by decide +kernel
theorem dX9_bySteps_42 : decode cX9_bySteps 42 = .ok (.invokevirtual 272, 3) := by decide +kernel
theorem dX9_bySteps_45 : decode cX9_bySteps 45 = .ok (.lreturn, 1) := by decide +kernel
theorem dX9_bySteps_46 : decode cX9_bySteps 46 = .ok (.iload 4, 2) := by decide +kernel
theorem dX9_bySteps_48 : decode cX9_bySteps 48 = .ok (.i2l, 1) := by decide +kernel
theorem dX9_bySteps_49 : decode cX9_bySteps 49 = .ok (.lconst 0, 1) := by decide +kernel
theorem dX9_bySteps_50 : decode cX9_bySteps 50 = .ok (.lconst 1, 1) := by decide +kernel
theorem dX9_bySteps_51 : decode cX9_bySteps 51 = .ok (.invokestatic 116, 3) := by decide +kernel
theorem dX9_bySteps_54 : decode cX9_bySteps 54 = .ok (.ifCond .ne 10, 3) := by decide +kernel
theorem dX9_bySteps_57 : decode cX9_bySteps 57 = .ok (.aload_n 0, 1) := by decide +kernel
theorem dX9_bySteps_58 : decode cX9_bySteps 58 = .ok (.bipush (-2), 2) := by decide +kernel
theorem dX9_bySteps_60 : decode cX9_bySteps 60 = .ok (.invokevirtual 272, 3) := by decide +kernel
theorem dX9_bySteps_63 : decode cX9_bySteps 63 = .ok (.lreturn, 1) := by decide +kernel
theorem dX9_bySteps_64 : decode cX9_bySteps 64 = .ok (.aload_n 0, 1) := by decide +kernel
theorem dX9_bySteps_65 : decode cX9_bySteps 65 = .ok (.invokevirtual 230, 3) := by decide +kernel
theorem dX9_bySteps_68 : decode cX9_bySteps 68 = .ok (.iconst 0, 1) := by decide +kernel
theorem dX9_bySteps_69 : decode cX9_bySteps 69 = .ok (.istore 5, 2) := by decide +kernel
theorem dX9_bySteps_71 : decode cX9_bySteps 71 = .ok (.iload 5, 2) := by decide +kernel
theorem dX9_bySteps_73 : decode cX9_bySteps 73 = .ok (.bipush 6, 2) := by decide +kernel
theorem dX9_bySteps_75 : decode cX9_bySteps 75 = .ok (.if_icmp .ge 27, 3) := by decide +kernel
theorem dX9_bySteps_78 : decode cX9_bySteps 78 = .ok (.aload_n 0, 1) := by decide +kernel
theorem dX9_bySteps_79 : decode cX9_bySteps 79 = .ok (.getfield 70, 3) := by decide +kernel
theorem dX9_bySteps_82 : decode cX9_bySteps 82 = .ok (.iload 5, 2) := by decide +kernel
theorem dX9_bySteps_84 : decode cX9_bySteps 84 = .ok (.iload 5, 2) := by decide +kernel
theorem dX9_bySteps_86 : decode cX9_bySteps 86 = .ok (.iload_n 1, 1) := by decide +kernel
theorem dX9_bySteps_87 : decode cX9_bySteps 87 = .ok (.if_icmp .ne 7, 3) := by decide +kernel
theorem dX9_bySteps_90 : decode cX9_bySteps 90 = .ok (.dconst 1, 1) := by decide +kernel
theorem dX9_bySteps_91 : decode cX9_bySteps 91 = .ok (.goto 4, 3) := by decide +kernel
theorem dX9_bySteps_94 : decode cX9_bySteps 94 = .ok (.dconst 0, 1) := by decide +kernel
theorem dX9_bySteps_95 : decode cX9_bySteps 95 = .ok (.dastore, 1) := by decide +kernel
theorem dX9_bySteps_96 : decode cX9_bySteps 96 = .ok (.iinc 5 1, 3) := by decide +kernel
theorem dX9_bySteps_99 : decode cX9_bySteps 99 = .ok (.goto (-28), 3) := by decide +kernel
theorem dX9_bySteps_102 : decode cX9_bySteps 102 = .ok (.iconst 0, 1) := by decide +kernel
theorem dX9_bySteps_103 : decode cX9_bySteps 103 = .ok (.istore 5, 2) := by decide +kernel
theorem dX9_bySteps_105 : decode cX9_bySteps 105 = .ok (.iload 5, 2) := by decide +kernel
theorem dX9_bySteps_107 : decode cX9_bySteps 107 = .ok (.iload_n 3, 1) := by decide +kernel
theorem dX9_bySteps_108 : decode cX9_bySteps 108 = .ok (.if_icmp .ge 213, 3) := by decide +kernel
theorem dX9_bySteps_111 : decode cX9_bySteps 111 = .ok (.iconst 0, 1) := by decide +kernel
theorem dX9_bySteps_112 : decode cX9_bySteps 112 = .ok (.istore 6, 2) := by decide +kernel
theorem dX9_bySteps_114 : decode cX9_bySteps 114 = .ok (.iload 6, 2) := by decide +kernel
theorem dX9_bySteps_116 : decode cX9_bySteps 116 = .ok (.bipush 6, 2) := by decide +kernel
theorem dX9_bySteps_118 : decode cX9_bySteps 118 = .ok (.if_icmp .ge 17, 3) := by decide +kernel
theorem dX9_bySteps_121 : decode cX9_bySteps 121 = .ok (.aload_n 0, 1) := by decide +kernel
theorem dX9_bySteps_122 : decode cX9_bySteps 122 = .ok (.getfield 74, 3) := by decide +kernel
theorem dX9_bySteps_125 : decode cX9_bySteps 125 = .ok (.iload 6, 2) := by decide +kernel
theorem dX9_bySteps_127 : decode cX9_bySteps 127 = .ok (.dconst 0, 1) := by decide +kernel
theorem dX9_bySteps_128 : decode cX9_bySteps 128 = .ok (.dastore, 1) := by decide +kernel
theorem dX9_bySteps_129 : decode cX9_bySteps 129 = .ok (.iinc 6 1, 3) := by decide +kernel
theorem dX9_bySteps_132 : decode cX9_bySteps 132 = .ok (.goto (-18), 3) := by decide +kernel
theorem dX9_bySteps_135 : decode cX9_bySteps 135 = .ok (.iconst 0, 1) := by decide +kernel
theorem dX9_bySteps_136 : decode cX9_bySteps 136 = .ok (.istore 6, 2) := by decide +kernel
theorem dX9_bySteps_138 : decode cX9_bySteps 138 = .ok (.iload 6, 2) := by decide +kernel
theorem dX9_bySteps_140 : decode cX9_bySteps 140 = .ok (.aload_n 0, 1) := by decide +kernel
theorem dX9_bySteps_141 : decode cX9_bySteps 141 = .ok (.getfield 7, 3) := by decide +kernel
theorem dX9_bySteps_144 : decode cX9_bySteps 144 = .ok (.if_icmp .ge 141, 3) := by decide +kernel
theorem dX9_bySteps_147 : decode cX9_bySteps 147 = .ok (.aload_n 0, 1) := by decide +kernel
theorem dX9_bySteps_148 : decode cX9_bySteps 148 = .ok (.iload 6, 2) := by decide +kernel
theorem dX9_bySteps_150 : decode cX9_bySteps 150 = .ok (.invokevirtual 239, 3) := by decide +kernel
theorem dX9_bySteps_153 : decode cX9_bySteps 153 = .ok (.istore 7, 2) := by decide +kernel
theorem dX9_bySteps_155 : decode cX9_bySteps 155 = .ok (.iload 7, 2) := by decide +kernel
theorem dX9_bySteps_157 : decode cX9_bySteps 157 = .ok (.ifCond .ne 17, 3) := by decide +kernel
theorem dX9_bySteps_160 : decode cX9_bySteps 160 = .ok (.aload_n 0, 1) := by decide +kernel
theorem dX9_bySteps_161 : decode cX9_bySteps 161 = .ok (.getfield 74, 3) := by decide +kernel
theorem dX9_bySteps_164 : decode cX9_bySteps 164 = .ok (.iload 6, 2) := by decide +kernel
theorem dX9_bySteps_166 : decode cX9_bySteps 166 = .ok (.aload_n 0, 1) := by decide +kernel
theorem dX9_bySteps_167 : decode cX9_bySteps 167 = .ok (.getfield 70, 3) := by decide +kernel
theorem dX9_bySteps_170 : decode cX9_bySteps 170 = .ok (.iload 6, 2) := by decide +kernel
theorem dX9_bySteps_172 : decode cX9_bySteps 172 = .ok (.daload, 1) := by decide +kernel
theorem dX9_bySteps_173 : decode cX9_bySteps 173 = .ok (.dastore, 1) := by decide +kernel
theorem dX9_bySteps_174 : decode cX9_bySteps 174 = .ok (.iconst 0, 1) := by decide +kernel
theorem dX9_bySteps_175 : decode cX9_bySteps 175 = .ok (.istore 8, 2) := by decide +kernel
theorem dX9_bySteps_177 : decode cX9_bySteps 177 = .ok (.iload 8, 2) := by decide +kernel
theorem dX9_bySteps_179 : decode cX9_bySteps 179 = .ok (.aload_n 0, 1) := by decide +kernel
theorem dX9_bySteps_180 : decode cX9_bySteps 180 = .ok (.getfield 120, 3) := by decide +kernel
theorem dX9_bySteps_183 : decode cX9_bySteps 183 = .ok (.if_icmp .ge 96, 3) := by decide +kernel
theorem dX9_bySteps_186 : decode cX9_bySteps 186 = .ok (.aload_n 0, 1) := by decide +kernel
theorem dX9_bySteps_187 : decode cX9_bySteps 187 = .ok (.getfield 13, 3) := by decide +kernel
theorem dX9_bySteps_190 : decode cX9_bySteps 190 = .ok (.iload 8, 2) := by decide +kernel
theorem dX9_bySteps_192 : decode cX9_bySteps 192 = .ok (.iaload, 1) := by decide +kernel
theorem dX9_bySteps_193 : decode cX9_bySteps 193 = .ok (.iload 6, 2) := by decide +kernel
theorem dX9_bySteps_195 : decode cX9_bySteps 195 = .ok (.if_icmp .eq 18, 3) := by decide +kernel
theorem dX9_bySteps_198 : decode cX9_bySteps 198 = .ok (.aload_n 0, 1) := by decide +kernel
theorem dX9_bySteps_199 : decode cX9_bySteps 199 = .ok (.getfield 17, 3) := by decide +kernel
theorem dX9_bySteps_202 : decode cX9_bySteps 202 = .ok (.iload 8, 2) := by decide +kernel
theorem dX9_bySteps_204 : decode cX9_bySteps 204 = .ok (.iaload, 1) := by decide +kernel
theorem dX9_bySteps_205 : decode cX9_bySteps 205 = .ok (.iload 6, 2) := by decide +kernel
theorem dX9_bySteps_207 : decode cX9_bySteps 207 = .ok (.if_icmp .eq 6, 3) := by decide +kernel
theorem dX9_bySteps_210 : decode cX9_bySteps 210 = .ok (.goto 63, 3) := by decide +kernel
theorem dX9_bySteps_213 : decode cX9_bySteps 213 = .ok (.aload_n 0, 1) := by decide +kernel
theorem dX9_bySteps_214 : decode cX9_bySteps 214 = .ok (.getfield 13, 3) := by decide +kernel
theorem dX9_bySteps_217 : decode cX9_bySteps 217 = .ok (.iload 8, 2) := by decide +kernel
theorem dX9_bySteps_219 : decode cX9_bySteps 219 = .ok (.iaload, 1) := by decide +kernel
theorem dX9_bySteps_220 : decode cX9_bySteps 220 = .ok (.iload 6, 2) := by decide +kernel
theorem dX9_bySteps_222 : decode cX9_bySteps 222 = .ok (.if_icmp .ne 13, 3) := by decide +kernel
theorem dX9_bySteps_225 : decode cX9_bySteps 225 = .ok (.aload_n 0, 1) := by decide +kernel
theorem dX9_bySteps_226 : decode cX9_bySteps 226 = .ok (.getfield 17, 3) := by decide +kernel
theorem dX9_bySteps_229 : decode cX9_bySteps 229 = .ok (.iload 8, 2) := by decide +kernel
theorem dX9_bySteps_231 : decode cX9_bySteps 231 = .ok (.iaload, 1) := by decide +kernel
theorem dX9_bySteps_232 : decode cX9_bySteps 232 = .ok (.goto 10, 3) := by decide +kernel
theorem dX9_bySteps_235 : decode cX9_bySteps 235 = .ok (.aload_n 0, 1) := by decide +kernel
theorem dX9_bySteps_236 : decode cX9_bySteps 236 = .ok (.getfield 13, 3) := by decide +kernel
theorem dX9_bySteps_239 : decode cX9_bySteps 239 = .ok (.iload 8, 2) := by decide +kernel
theorem dX9_bySteps_241 : decode cX9_bySteps 241 = .ok (.iaload, 1) := by decide +kernel
theorem dX9_bySteps_242 : decode cX9_bySteps 242 = .ok (.istore 9, 2) := by decide +kernel
theorem dX9_bySteps_244 : decode cX9_bySteps 244 = .ok (.aload_n 0, 1) := by decide +kernel
theorem dX9_bySteps_245 : decode cX9_bySteps 245 = .ok (.getfield 74, 3) := by decide +kernel
theorem dX9_bySteps_248 : decode cX9_bySteps 248 = .ok (.iload 9, 2) := by decide +kernel
theorem dX9_bySteps_250 : decode cX9_bySteps 250 = .ok (.dup2, 1) := by decide +kernel
theorem dX9_bySteps_251 : decode cX9_bySteps 251 = .ok (.daload, 1) := by decide +kernel
theorem dX9_bySteps_252 : decode cX9_bySteps 252 = .ok (.aload_n 0, 1) := by decide +kernel
theorem dX9_bySteps_253 : decode cX9_bySteps 253 = .ok (.getfield 70, 3) := by decide +kernel
theorem dX9_bySteps_256 : decode cX9_bySteps 256 = .ok (.iload 6, 2) := by decide +kernel
theorem dX9_bySteps_258 : decode cX9_bySteps 258 = .ok (.daload, 1) := by decide +kernel
theorem dX9_bySteps_259 : decode cX9_bySteps 259 = .ok (.aload_n 0, 1) := by decide +kernel
theorem dX9_bySteps_260 : decode cX9_bySteps 260 = .ok (.iload 8, 2) := by decide +kernel
theorem dX9_bySteps_262 : decode cX9_bySteps 262 = .ok (.invokevirtual 171, 3) := by decide +kernel
theorem dX9_bySteps_265 : decode cX9_bySteps 265 = .ok (.i2d, 1) := by decide +kernel
theorem dX9_bySteps_266 : decode cX9_bySteps 266 = .ok (.dmul, 1) := by decide +kernel
theorem dX9_bySteps_267 : decode cX9_bySteps 267 = .ok (.iload 7, 2) := by decide +kernel
theorem dX9_bySteps_269 : decode cX9_bySteps 269 = .ok (.i2d, 1) := by decide +kernel
theorem dX9_bySteps_270 : decode cX9_bySteps 270 = .ok (.ddiv, 1) := by decide +kernel
theorem dX9_bySteps_271 : decode cX9_bySteps 271 = .ok (.dadd, 1) := by decide +kernel
theorem dX9_bySteps_272 : decode cX9_bySteps 272 = .ok (.dastore, 1) := by decide +kernel
theorem dX9_bySteps_273 : decode cX9_bySteps 273 = .ok (.iinc 8 1, 3) := by decide +kernel
theorem dX9_bySteps_276 : decode cX9_bySteps 276 = .ok (.goto (-99), 3) := by decide +kernel
theorem dX9_bySteps_279 : decode cX9_bySteps 279 = .ok (.iinc 6 1, 3) := by decide +kernel
theorem dX9_bySteps_282 : decode cX9_bySteps 282 = .ok (.goto (-144), 3) := by decide +kernel
theorem dX9_bySteps_285 : decode cX9_bySteps 285 = .ok (.iconst 0, 1) := by decide +kernel
theorem dX9_bySteps_286 : decode cX9_bySteps 286 = .ok (.istore 6, 2) := by decide +kernel
theorem dX9_bySteps_288 : decode cX9_bySteps 288 = .ok (.iload 6, 2) := by decide +kernel
theorem dX9_bySteps_290 : decode cX9_bySteps 290 = .ok (.bipush 6, 2) := by decide +kernel
theorem dX9_bySteps_292 : decode cX9_bySteps 292 = .ok (.if_icmp .ge 23, 3) := by decide +kernel
theorem dX9_bySteps_295 : decode cX9_bySteps 295 = .ok (.aload_n 0, 1) := by decide +kernel
theorem dX9_bySteps_296 : decode cX9_bySteps 296 = .ok (.getfield 70, 3) := by decide +kernel
theorem dX9_bySteps_299 : decode cX9_bySteps 299 = .ok (.iload 6, 2) := by decide +kernel
theorem dX9_bySteps_301 : decode cX9_bySteps 301 = .ok (.aload_n 0, 1) := by decide +kernel
theorem dX9_bySteps_302 : decode cX9_bySteps 302 = .ok (.getfield 74, 3) := by decide +kernel
theorem dX9_bySteps_305 : decode cX9_bySteps 305 = .ok (.iload 6, 2) := by decide +kernel
theorem dX9_bySteps_307 : decode cX9_bySteps 307 = .ok (.daload, 1) := by decide +kernel
theorem dX9_bySteps_308 : decode cX9_bySteps 308 = .ok (.dastore, 1) := by decide +kernel
theorem dX9_bySteps_309 : decode cX9_bySteps 309 = .ok (.iinc 6 1, 3) := by decide +kernel
theorem dX9_bySteps_312 : decode cX9_bySteps 312 = .ok (.goto (-24), 3) := by decide +kernel
theorem dX9_bySteps_315 : decode cX9_bySteps 315 = .ok (.iinc 5 1, 3) := by decide +kernel
theorem dX9_bySteps_318 : decode cX9_bySteps 318 = .ok (.goto (-213), 3) := by decide +kernel
theorem dX9_bySteps_321 : decode cX9_bySteps 321 = .ok (.iload 4, 2) := by decide +kernel
theorem dX9_bySteps_323 : decode cX9_bySteps 323 = .ok (.ifCond .ne 15, 3) := by decide +kernel
theorem dX9_bySteps_326 : decode cX9_bySteps 326 = .ok (.aload_n 0, 1) := by decide +kernel
theorem dX9_bySteps_327 : decode cX9_bySteps 327 = .ok (.getfield 70, 3) := by decide +kernel
theorem dX9_bySteps_330 : decode cX9_bySteps 330 = .ok (.iload_n 2, 1) := by decide +kernel
theorem dX9_bySteps_331 : decode cX9_bySteps 331 = .ok (.daload, 1) := by decide +kernel
theorem dX9_bySteps_332 : decode cX9_bySteps 332 = .ok (.invokestatic 318, 3) := by decide +kernel
theorem dX9_bySteps_335 : decode cX9_bySteps 335 = .ok (.goto 15, 3) := by decide +kernel
theorem dX9_bySteps_338 : decode cX9_bySteps 338 = .ok (.aload_n 0, 1) := by decide +kernel
theorem dX9_bySteps_339 : decode cX9_bySteps 339 = .ok (.getfield 70, 3) := by decide +kernel
theorem dX9_bySteps_342 : decode cX9_bySteps 342 = .ok (.iload_n 2, 1) := by decide +kernel
theorem dX9_bySteps_343 : decode cX9_bySteps 343 = .ok (.daload, 1) := by decide +kernel
theorem dX9_bySteps_344 : decode cX9_bySteps 344 = .ok (.ldc2_w 324, 3) := by decide +kernel
theorem dX9_bySteps_347 : decode cX9_bySteps 347 = .ok (.dmul, 1) := by decide +kernel
theorem dX9_bySteps_348 : decode cX9_bySteps 348 = .ok (.d2i, 1) := by decide +kernel
theorem dX9_bySteps_349 : decode cX9_bySteps 349 = .ok (.i2l, 1) := by decide +kernel
theorem dX9_bySteps_350 : decode cX9_bySteps 350 = .ok (.lreturn, 1) := by decide +kernel
theorem dX9_draw_0 : decode cX9_draw 0 = .ok (.aload_n 0, 1) := by decide +kernel
theorem dX9_draw_1 : decode cX9_draw 1 = .ok (.aload_n 0, 1) := by decide +kernel
theorem dX9_draw_2 : decode cX9_draw 2 = .ok (.getfield 326, 3) := by decide +kernel
theorem dX9_draw_5 : decode cX9_draw 5 = .ok (.ldc_w 329, 3) := by decide +kernel
theorem dX9_draw_8 : decode cX9_draw 8 = .ok (.imul, 1) := by decide +kernel
theorem dX9_draw_9 : decode cX9_draw 9 = .ok (.ldc_w 330, 3) := by decide +kernel
theorem dX9_draw_12 : decode cX9_draw 12 = .ok (.iadd, 1) := by decide +kernel
theorem dX9_draw_13 : decode cX9_draw 13 = .ok (.putfield 326, 3) := by decide +kernel
theorem dX9_draw_16 : decode cX9_draw 16 = .ok (.aload_n 0, 1) := by decide +kernel
theorem dX9_draw_17 : decode cX9_draw 17 = .ok (.getfield 326, 3) := by decide +kernel
theorem dX9_draw_20 : decode cX9_draw 20 = .ok (.ldc_w 331, 3) := by decide +kernel
theorem dX9_draw_23 : decode cX9_draw 23 = .ok (.iand, 1) := by decide +kernel
theorem dX9_draw_24 : decode cX9_draw 24 = .ok (.sipush 256, 3) := by decide +kernel
theorem dX9_draw_27 : decode cX9_draw 27 = .ok (.idiv, 1) := by decide +kernel
theorem dX9_draw_28 : decode cX9_draw 28 = .ok (.iload_n 1, 1) := by decide +kernel
theorem dX9_draw_29 : decode cX9_draw 29 = .ok (.irem, 1) := by decide +kernel
theorem dX9_draw_30 : decode cX9_draw 30 = .ok (.ireturn, 1) := by decide +kernel
theorem dX9_wayFrom_0 : decode cX9_wayFrom 0 = .ok (.aload_n 0, 1) := by decide +kernel
theorem dX9_wayFrom_1 : decode cX9_wayFrom 1 = .ok (.aload_n 0, 1) := by decide +kernel
theorem dX9_wayFrom_2 : decode cX9_wayFrom 2 = .ok (.iload_n 1, 1) := by decide +kernel
theorem dX9_wayFrom_3 : decode cX9_wayFrom 3 = .ok (.invokevirtual 239, 3) := by decide +kernel
theorem dX9_wayFrom_6 : decode cX9_wayFrom 6 = .ok (.invokevirtual 332, 3) := by decide +kernel
theorem dX9_wayFrom_9 : decode cX9_wayFrom 9 = .ok (.istore_n 2, 1) := by decide +kernel
theorem dX9_wayFrom_10 : decode cX9_wayFrom 10 = .ok (.iconst 0, 1) := by decide +kernel
theorem dX9_wayFrom_11 : decode cX9_wayFrom 11 = .ok (.istore_n 3, 1) := by decide +kernel
theorem dX9_wayFrom_12 : decode cX9_wayFrom 12 = .ok (.aload_n 0, 1) := by decide +kernel
theorem dX9_wayFrom_13 : decode cX9_wayFrom 13 = .ok (.getfield 13, 3) := by decide +kernel
theorem dX9_wayFrom_16 : decode cX9_wayFrom 16 = .ok (.iload_n 3, 1) := by decide +kernel
theorem dX9_wayFrom_17 : decode cX9_wayFrom 17 = .ok (.iaload, 1) := by decide +kernel
theorem dX9_wayFrom_18 : decode cX9_wayFrom 18 = .ok (.iload_n 1, 1) := by decide +kernel
theorem dX9_wayFrom_19 : decode cX9_wayFrom 19 = .ok (.if_icmp .eq 13, 3) := by decide +kernel
theorem dX9_wayFrom_22 : decode cX9_wayFrom 22 = .ok (.aload_n 0, 1) := by decide +kernel
theorem dX9_wayFrom_23 : decode cX9_wayFrom 23 = .ok (.getfield 17, 3) := by decide +kernel
theorem dX9_wayFrom_26 : decode cX9_wayFrom 26 = .ok (.iload_n 3, 1) := by decide +kernel
theorem dX9_wayFrom_27 : decode cX9_wayFrom 27 = .ok (.iaload, 1) := by decide +kernel
theorem dX9_wayFrom_28 : decode cX9_wayFrom 28 = .ok (.iload_n 1, 1) := by decide +kernel
theorem dX9_wayFrom_29 : decode cX9_wayFrom 29 = .ok (.if_icmp .ne 12, 3) := by decide +kernel
theorem dX9_wayFrom_32 : decode cX9_wayFrom 32 = .ok (.iload_n 2, 1) := by decide +kernel
theorem dX9_wayFrom_33 : decode cX9_wayFrom 33 = .ok (.aload_n 0, 1) := by decide +kernel
theorem dX9_wayFrom_34 : decode cX9_wayFrom 34 = .ok (.iload_n 3, 1) := by decide +kernel
theorem dX9_wayFrom_35 : decode cX9_wayFrom 35 = .ok (.invokevirtual 171, 3) := by decide +kernel
theorem dX9_wayFrom_38 : decode cX9_wayFrom 38 = .ok (.if_icmp .lt 41, 3) := by decide +kernel
theorem dX9_wayFrom_41 : decode cX9_wayFrom 41 = .ok (.iload_n 2, 1) := by decide +kernel
theorem dX9_wayFrom_42 : decode cX9_wayFrom 42 = .ok (.aload_n 0, 1) := by decide +kernel
theorem dX9_wayFrom_43 : decode cX9_wayFrom 43 = .ok (.getfield 13, 3) := by decide +kernel
theorem dX9_wayFrom_46 : decode cX9_wayFrom 46 = .ok (.iload_n 3, 1) := by decide +kernel
theorem dX9_wayFrom_47 : decode cX9_wayFrom 47 = .ok (.iaload, 1) := by decide +kernel
theorem dX9_wayFrom_48 : decode cX9_wayFrom 48 = .ok (.iload_n 1, 1) := by decide +kernel
theorem dX9_wayFrom_49 : decode cX9_wayFrom 49 = .ok (.if_icmp .eq 13, 3) := by decide +kernel
theorem dX9_wayFrom_52 : decode cX9_wayFrom 52 = .ok (.aload_n 0, 1) := by decide +kernel
theorem dX9_wayFrom_53 : decode cX9_wayFrom 53 = .ok (.getfield 17, 3) := by decide +kernel
theorem dX9_wayFrom_56 : decode cX9_wayFrom 56 = .ok (.iload_n 3, 1) := by decide +kernel
theorem dX9_wayFrom_57 : decode cX9_wayFrom 57 = .ok (.iaload, 1) := by decide +kernel
theorem dX9_wayFrom_58 : decode cX9_wayFrom 58 = .ok (.iload_n 1, 1) := by decide +kernel
theorem dX9_wayFrom_59 : decode cX9_wayFrom 59 = .ok (.if_icmp .ne 11, 3) := by decide +kernel
theorem dX9_wayFrom_62 : decode cX9_wayFrom 62 = .ok (.aload_n 0, 1) := by decide +kernel
theorem dX9_wayFrom_63 : decode cX9_wayFrom 63 = .ok (.iload_n 3, 1) := by decide +kernel
theorem dX9_wayFrom_64 : decode cX9_wayFrom 64 = .ok (.invokevirtual 171, 3) := by decide +kernel
theorem dX9_wayFrom_67 : decode cX9_wayFrom 67 = .ok (.goto 4, 3) := by decide +kernel
theorem dX9_wayFrom_70 : decode cX9_wayFrom 70 = .ok (.iconst 0, 1) := by decide +kernel
theorem dX9_wayFrom_71 : decode cX9_wayFrom 71 = .ok (.isub, 1) := by decide +kernel
theorem dX9_wayFrom_72 : decode cX9_wayFrom 72 = .ok (.istore_n 2, 1) := by decide +kernel
theorem dX9_wayFrom_73 : decode cX9_wayFrom 73 = .ok (.iinc 3 1, 3) := by decide +kernel
theorem dX9_wayFrom_76 : decode cX9_wayFrom 76 = .ok (.goto (-64), 3) := by decide +kernel
theorem dX9_wayFrom_79 : decode cX9_wayFrom 79 = .ok (.iload_n 3, 1) := by decide +kernel
theorem dX9_wayFrom_80 : decode cX9_wayFrom 80 = .ok (.ireturn, 1) := by decide +kernel
theorem dX9_lots_0 : decode cX9_lots 0 = .ok (.aload_n 0, 1) := by decide +kernel
theorem dX9_lots_1 : decode cX9_lots 1 = .ok (.iload_n 1, 1) := by decide +kernel
theorem dX9_lots_2 : decode cX9_lots 2 = .ok (.invokevirtual 141, 3) := by decide +kernel
theorem dX9_lots_5 : decode cX9_lots 5 = .ok (.ifCond .eq 16, 3) := by decide +kernel
theorem dX9_lots_8 : decode cX9_lots 8 = .ok (.aload_n 0, 1) := by decide +kernel
theorem dX9_lots_9 : decode cX9_lots 9 = .ok (.iload_n 2, 1) := by decide +kernel
theorem dX9_lots_10 : decode cX9_lots 10 = .ok (.invokevirtual 141, 3) := by decide +kernel
theorem dX9_lots_13 : decode cX9_lots 13 = .ok (.ifCond .eq 8, 3) := by decide +kernel
theorem dX9_lots_16 : decode cX9_lots 16 = .ok (.iload_n 1, 1) := by decide +kernel
theorem dX9_lots_17 : decode cX9_lots 17 = .ok (.iload_n 2, 1) := by decide +kernel
theorem dX9_lots_18 : decode cX9_lots 18 = .ok (.if_icmp .ne 9, 3) := by decide +kernel
theorem dX9_lots_21 : decode cX9_lots 21 = .ok (.aload_n 0, 1) := by decide +kernel
theorem dX9_lots_22 : decode cX9_lots 22 = .ok (.iconst (-1), 1) := by decide +kernel
theorem dX9_lots_23 : decode cX9_lots 23 = .ok (.invokevirtual 125, 3) := by decide +kernel
theorem dX9_lots_26 : decode cX9_lots 26 = .ok (.ireturn, 1) := by decide +kernel
theorem dX9_lots_27 : decode cX9_lots 27 = .ok (.iload_n 3, 1) := by decide +kernel
theorem dX9_lots_28 : decode cX9_lots 28 = .ok (.iconst 1, 1) := by decide +kernel
theorem dX9_lots_29 : decode cX9_lots 29 = .ok (.if_icmp .ge 10, 3) := by decide +kernel
theorem dX9_lots_32 : decode cX9_lots 32 = .ok (.aload_n 0, 1) := by decide +kernel
theorem dX9_lots_33 : decode cX9_lots 33 = .ok (.bipush (-4), 2) := by decide +kernel
theorem dX9_lots_35 : decode cX9_lots 35 = .ok (.invokevirtual 125, 3) := by decide +kernel
theorem dX9_lots_38 : decode cX9_lots 38 = .ok (.ireturn, 1) := by decide +kernel
theorem dX9_lots_39 : decode cX9_lots 39 = .ok (.iload_n 3, 1) := by decide +kernel
theorem dX9_lots_40 : decode cX9_lots 40 = .ok (.bipush 30, 2) := by decide +kernel
theorem dX9_lots_42 : decode cX9_lots 42 = .ok (.if_icmp .le 10, 3) := by decide +kernel
theorem dX9_lots_45 : decode cX9_lots 45 = .ok (.aload_n 0, 1) := by decide +kernel
theorem dX9_lots_46 : decode cX9_lots 46 = .ok (.bipush (-6), 2) := by decide +kernel
theorem dX9_lots_48 : decode cX9_lots 48 = .ok (.invokevirtual 125, 3) := by decide +kernel
theorem dX9_lots_51 : decode cX9_lots 51 = .ok (.ireturn, 1) := by decide +kernel
theorem dX9_lots_52 : decode cX9_lots 52 = .ok (.iload 5, 2) := by decide +kernel
theorem dX9_lots_54 : decode cX9_lots 54 = .ok (.i2l, 1) := by decide +kernel
theorem dX9_lots_55 : decode cX9_lots 55 = .ok (.lconst 0, 1) := by decide +kernel
theorem dX9_lots_56 : decode cX9_lots 56 = .ok (.lconst 1, 1) := by decide +kernel
theorem dX9_lots_57 : decode cX9_lots 57 = .ok (.invokestatic 116, 3) := by decide +kernel
theorem dX9_lots_60 : decode cX9_lots 60 = .ok (.ifCond .ne 10, 3) := by decide +kernel
theorem dX9_lots_63 : decode cX9_lots 63 = .ok (.aload_n 0, 1) := by decide +kernel
theorem dX9_lots_64 : decode cX9_lots 64 = .ok (.bipush (-2), 2) := by decide +kernel
theorem dX9_lots_66 : decode cX9_lots 66 = .ok (.invokevirtual 125, 3) := by decide +kernel
theorem dX9_lots_69 : decode cX9_lots 69 = .ok (.ireturn, 1) := by decide +kernel
theorem dX9_lots_70 : decode cX9_lots 70 = .ok (.aload_n 0, 1) := by decide +kernel
theorem dX9_lots_71 : decode cX9_lots 71 = .ok (.invokevirtual 230, 3) := by decide +kernel
theorem dX9_lots_74 : decode cX9_lots 74 = .ok (.aload_n 0, 1) := by decide +kernel
theorem dX9_lots_75 : decode cX9_lots 75 = .ok (.iload 4, 2) := by decide +kernel
theorem dX9_lots_77 : decode cX9_lots 77 = .ok (.putfield 326, 3) := by decide +kernel
theorem dX9_lots_80 : decode cX9_lots 80 = .ok (.iconst 0, 1) := by decide +kernel
theorem dX9_lots_81 : decode cX9_lots 81 = .ok (.istore 6, 2) := by decide +kernel
theorem dX9_lots_83 : decode cX9_lots 83 = .ok (.iconst 0, 1) := by decide +kernel
theorem dX9_lots_84 : decode cX9_lots 84 = .ok (.istore 7, 2) := by decide +kernel
theorem dX9_lots_86 : decode cX9_lots 86 = .ok (.iconst 0, 1) := by decide +kernel
theorem dX9_lots_87 : decode cX9_lots 87 = .ok (.istore 8, 2) := by decide +kernel
theorem dX9_lots_89 : decode cX9_lots 89 = .ok (.iload 8, 2) := by decide +kernel
theorem dX9_lots_91 : decode cX9_lots 91 = .ok (.iload_n 3, 1) := by decide +kernel
theorem dX9_lots_92 : decode cX9_lots 92 = .ok (.if_icmp .ge 129, 3) := by decide +kernel
theorem dX9_lots_95 : decode cX9_lots 95 = .ok (.iload_n 1, 1) := by decide +kernel
theorem dX9_lots_96 : decode cX9_lots 96 = .ok (.istore 9, 2) := by decide +kernel
theorem dX9_lots_98 : decode cX9_lots 98 = .ok (.iconst 0, 1) := by decide +kernel
theorem dX9_lots_99 : decode cX9_lots 99 = .ok (.istore 10, 2) := by decide +kernel
theorem dX9_lots_101 : decode cX9_lots 101 = .ok (.iconst 0, 1) := by decide +kernel
theorem dX9_lots_102 : decode cX9_lots 102 = .ok (.istore 11, 2) := by decide +kernel
theorem dX9_lots_104 : decode cX9_lots 104 = .ok (.iload 11, 2) := by decide +kernel
theorem dX9_lots_106 : decode cX9_lots 106 = .ok (.bipush 60, 2) := by decide +kernel
theorem dX9_lots_108 : decode cX9_lots 108 = .ok (.if_icmp .ge 74, 3) := by decide +kernel
theorem dX9_lots_111 : decode cX9_lots 111 = .ok (.iload 9, 2) := by decide +kernel
theorem dX9_lots_113 : decode cX9_lots 113 = .ok (.iload_n 2, 1) := by decide +kernel
theorem dX9_lots_114 : decode cX9_lots 114 = .ok (.if_icmp .eq 68, 3) := by decide +kernel
theorem dX9_lots_117 : decode cX9_lots 117 = .ok (.aload_n 0, 1) := by decide +kernel
theorem dX9_lots_118 : decode cX9_lots 118 = .ok (.iload 9, 2) := by decide +kernel
theorem dX9_lots_120 : decode cX9_lots 120 = .ok (.invokevirtual 239, 3) := by decide +kernel
theorem dX9_lots_123 : decode cX9_lots 123 = .ok (.ifCond .le 59, 3) := by decide +kernel
theorem dX9_lots_126 : decode cX9_lots 126 = .ok (.aload_n 0, 1) := by decide +kernel
theorem dX9_lots_127 : decode cX9_lots 127 = .ok (.iload 9, 2) := by decide +kernel
theorem dX9_lots_129 : decode cX9_lots 129 = .ok (.invokevirtual 335, 3) := by decide +kernel
theorem dX9_lots_132 : decode cX9_lots 132 = .ok (.istore 12, 2) := by decide +kernel
theorem dX9_lots_134 : decode cX9_lots 134 = .ok (.iload 10, 2) := by decide +kernel
theorem dX9_lots_136 : decode cX9_lots 136 = .ok (.aload_n 0, 1) := by decide +kernel
theorem dX9_lots_137 : decode cX9_lots 137 = .ok (.iload 12, 2) := by decide +kernel
theorem dX9_lots_139 : decode cX9_lots 139 = .ok (.invokevirtual 174, 3) := by decide +kernel
theorem dX9_lots_142 : decode cX9_lots 142 = .ok (.iadd, 1) := by decide +kernel
theorem dX9_lots_143 : decode cX9_lots 143 = .ok (.istore 10, 2) := by decide +kernel
theorem dX9_lots_145 : decode cX9_lots 145 = .ok (.aload_n 0, 1) := by decide +kernel
theorem dX9_lots_146 : decode cX9_lots 146 = .ok (.getfield 13, 3) := by decide +kernel
theorem dX9_lots_149 : decode cX9_lots 149 = .ok (.iload 12, 2) := by decide +kernel
theorem dX9_lots_151 : decode cX9_lots 151 = .ok (.iaload, 1) := by decide +kernel
theorem dX9_lots_152 : decode cX9_lots 152 = .ok (.iload 9, 2) := by decide +kernel
theorem dX9_lots_154 : decode cX9_lots 154 = .ok (.if_icmp .ne 13, 3) := by decide +kernel
theorem dX9_lots_157 : decode cX9_lots 157 = .ok (.aload_n 0, 1) := by decide +kernel
theorem dX9_lots_158 : decode cX9_lots 158 = .ok (.getfield 17, 3) := by decide +kernel
theorem dX9_lots_161 : decode cX9_lots 161 = .ok (.iload 12, 2) := by decide +kernel
theorem dX9_lots_163 : decode cX9_lots 163 = .ok (.iaload, 1) := by decide +kernel
theorem dX9_lots_164 : decode cX9_lots 164 = .ok (.goto 10, 3) := by decide +kernel
theorem dX9_lots_167 : decode cX9_lots 167 = .ok (.aload_n 0, 1) := by decide +kernel
theorem dX9_lots_168 : decode cX9_lots 168 = .ok (.getfield 13, 3) := by decide +kernel
theorem dX9_lots_171 : decode cX9_lots 171 = .ok (.iload 12, 2) := by decide +kernel
theorem dX9_lots_173 : decode cX9_lots 173 = .ok (.iaload, 1) := by decide +kernel
theorem dX9_lots_174 : decode cX9_lots 174 = .ok (.istore 9, 2) := by decide +kernel
theorem dX9_lots_176 : decode cX9_lots 176 = .ok (.iinc 11 1, 3) := by decide +kernel
theorem dX9_lots_179 : decode cX9_lots 179 = .ok (.goto (-75), 3) := by decide +kernel
theorem dX9_lots_182 : decode cX9_lots 182 = .ok (.iload 6, 2) := by decide +kernel
theorem dX9_lots_184 : decode cX9_lots 184 = .ok (.iload 9, 2) := by decide +kernel
theorem dX9_lots_186 : decode cX9_lots 186 = .ok (.iload_n 2, 1) := by decide +kernel
theorem dX9_lots_187 : decode cX9_lots 187 = .ok (.if_icmp .ne 7, 3) := by decide +kernel
theorem dX9_lots_190 : decode cX9_lots 190 = .ok (.iconst 1, 1) := by decide +kernel
theorem dX9_lots_191 : decode cX9_lots 191 = .ok (.goto 4, 3) := by decide +kernel
theorem dX9_lots_194 : decode cX9_lots 194 = .ok (.iconst 0, 1) := by decide +kernel
theorem dX9_lots_195 : decode cX9_lots 195 = .ok (.iadd, 1) := by decide +kernel
theorem dX9_lots_196 : decode cX9_lots 196 = .ok (.istore 6, 2) := by decide +kernel
theorem dX9_lots_198 : decode cX9_lots 198 = .ok (.iload 7, 2) := by decide +kernel
theorem dX9_lots_200 : decode cX9_lots 200 = .ok (.iload 9, 2) := by decide +kernel
theorem dX9_lots_202 : decode cX9_lots 202 = .ok (.iload_n 2, 1) := by decide +kernel
theorem dX9_lots_203 : decode cX9_lots 203 = .ok (.if_icmp .ne 8, 3) := by decide +kernel
theorem dX9_lots_206 : decode cX9_lots 206 = .ok (.iload 10, 2) := by decide +kernel
theorem dX9_lots_208 : decode cX9_lots 208 = .ok (.goto 4, 3) := by decide +kernel
theorem dX9_lots_211 : decode cX9_lots 211 = .ok (.iconst 0, 1) := by decide +kernel
theorem dX9_lots_212 : decode cX9_lots 212 = .ok (.iadd, 1) := by decide +kernel
theorem dX9_lots_213 : decode cX9_lots 213 = .ok (.istore 7, 2) := by decide +kernel
theorem dX9_lots_215 : decode cX9_lots 215 = .ok (.iinc 8 1, 3) := by decide +kernel
theorem dX9_lots_218 : decode cX9_lots 218 = .ok (.goto (-129), 3) := by decide +kernel
theorem dX9_lots_221 : decode cX9_lots 221 = .ok (.iload 5, 2) := by decide +kernel
theorem dX9_lots_223 : decode cX9_lots 223 = .ok (.ifCond .ne 8, 3) := by decide +kernel
theorem dX9_lots_226 : decode cX9_lots 226 = .ok (.iload 6, 2) := by decide +kernel
theorem dX9_lots_228 : decode cX9_lots 228 = .ok (.goto 5, 3) := by decide +kernel
theorem dX9_lots_231 : decode cX9_lots 231 = .ok (.iload 7, 2) := by decide +kernel
theorem dX9_lots_233 : decode cX9_lots 233 = .ok (.ireturn, 1) := by decide +kernel
theorem dX9_writes_0 : decode cX9_writes 0 = .ok (.aload_n 0, 1) := by decide +kernel
theorem dX9_writes_1 : decode cX9_writes 1 = .ok (.getfield 77, 3) := by decide +kernel
theorem dX9_writes_4 : decode cX9_writes 4 = .ok (.aload_n 0, 1) := by decide +kernel
theorem dX9_writes_5 : decode cX9_writes 5 = .ok (.getfield 338, 3) := by decide +kernel
theorem dX9_writes_8 : decode cX9_writes 8 = .ok (.iload_n 1, 1) := by decide +kernel
theorem dX9_writes_9 : decode cX9_writes 9 = .ok (.iastore, 1) := by decide +kernel
theorem dX9_writes_10 : decode cX9_writes 10 = .ok (.aload_n 0, 1) := by decide +kernel
theorem dX9_writes_11 : decode cX9_writes 11 = .ok (.dup, 1) := by decide +kernel
theorem dX9_writes_12 : decode cX9_writes 12 = .ok (.getfield 338, 3) := by decide +kernel
theorem dX9_writes_15 : decode cX9_writes 15 = .ok (.iconst 1, 1) := by decide +kernel
theorem dX9_writes_16 : decode cX9_writes 16 = .ok (.iadd, 1) := by decide +kernel
theorem dX9_writes_17 : decode cX9_writes 17 = .ok (.putfield 338, 3) := by decide +kernel
theorem dX9_writes_20 : decode cX9_writes 20 = .ok (.return_, 1) := by decide +kernel
theorem dX9_saysAll_0 : decode cX9_saysAll 0 = .ok (.iconst 0, 1) := by decide +kernel
theorem dX9_saysAll_1 : decode cX9_saysAll 1 = .ok (.istore_n 2, 1) := by decide +kernel
theorem dX9_saysAll_2 : decode cX9_saysAll 2 = .ok (.iload_n 2, 1) := by decide +kernel
theorem dX9_saysAll_3 : decode cX9_saysAll 3 = .ok (.aload_n 1, 1) := by decide +kernel
theorem dX9_saysAll_4 : decode cX9_saysAll 4 = .ok (.arraylength, 1) := by decide +kernel
theorem dX9_saysAll_5 : decode cX9_saysAll 5 = .ok (.if_icmp .ge 16, 3) := by decide +kernel
theorem dX9_saysAll_8 : decode cX9_saysAll 8 = .ok (.aload_n 0, 1) := by decide +kernel
theorem dX9_saysAll_9 : decode cX9_saysAll 9 = .ok (.aload_n 1, 1) := by decide +kernel
theorem dX9_saysAll_10 : decode cX9_saysAll 10 = .ok (.iload_n 2, 1) := by decide +kernel
theorem dX9_saysAll_11 : decode cX9_saysAll 11 = .ok (.caload, 1) := by decide +kernel
theorem dX9_saysAll_12 : decode cX9_saysAll 12 = .ok (.invokevirtual 341, 3) := by decide +kernel
theorem dX9_saysAll_15 : decode cX9_saysAll 15 = .ok (.iinc 2 1, 3) := by decide +kernel
theorem dX9_saysAll_18 : decode cX9_saysAll 18 = .ok (.goto (-16), 3) := by decide +kernel
theorem dX9_saysAll_21 : decode cX9_saysAll 21 = .ok (.return_, 1) := by decide +kernel
theorem dX9_saysNumber_0 : decode cX9_saysNumber 0 = .ok (.iconst 0, 1) := by decide +kernel
theorem dX9_saysNumber_1 : decode cX9_saysNumber 1 = .ok (.istore_n 3, 1) := by decide +kernel
theorem dX9_saysNumber_2 : decode cX9_saysNumber 2 = .ok (.lload_n 1, 1) := by decide +kernel
theorem dX9_saysNumber_3 : decode cX9_saysNumber 3 = .ok (.lstore 4, 2) := by decide +kernel
theorem dX9_saysNumber_5 : decode cX9_saysNumber 5 = .ok (.lload 4, 2) := by decide +kernel
theorem dX9_saysNumber_7 : decode cX9_saysNumber 7 = .ok (.lconst 0, 1) := by decide +kernel
theorem dX9_saysNumber_8 : decode cX9_saysNumber 8 = .ok (.lcmp, 1) := by decide +kernel
theorem dX9_saysNumber_9 : decode cX9_saysNumber 9 = .ok (.ifCond .gt 7, 3) := by decide +kernel
theorem dX9_saysNumber_12 : decode cX9_saysNumber 12 = .ok (.iload_n 3, 1) := by decide +kernel
theorem dX9_saysNumber_13 : decode cX9_saysNumber 13 = .ok (.ifCond .ne 30, 3) := by decide +kernel
theorem dX9_saysNumber_16 : decode cX9_saysNumber 16 = .ok (.aload_n 0, 1) := by decide +kernel
theorem dX9_saysNumber_17 : decode cX9_saysNumber 17 = .ok (.getfield 80, 3) := by decide +kernel
theorem dX9_saysNumber_20 : decode cX9_saysNumber 20 = .ok (.iload_n 3, 1) := by decide +kernel
theorem dX9_saysNumber_21 : decode cX9_saysNumber 21 = .ok (.lload 4, 2) := by decide +kernel
theorem dX9_saysNumber_23 : decode cX9_saysNumber 23 = .ok (.ldc2_w 344, 3) := by decide +kernel
theorem dX9_saysNumber_26 : decode cX9_saysNumber 26 = .ok (.lrem, 1) := by decide +kernel
theorem dX9_saysNumber_27 : decode cX9_saysNumber 27 = .ok (.l2i, 1) := by decide +kernel
theorem dX9_saysNumber_28 : decode cX9_saysNumber 28 = .ok (.iastore, 1) := by decide +kernel
theorem dX9_saysNumber_29 : decode cX9_saysNumber 29 = .ok (.lload 4, 2) := by decide +kernel
theorem dX9_saysNumber_31 : decode cX9_saysNumber 31 = .ok (.ldc2_w 344, 3) := by decide +kernel
theorem dX9_saysNumber_34 : decode cX9_saysNumber 34 = .ok (.ldiv, 1) := by decide +kernel
theorem dX9_saysNumber_35 : decode cX9_saysNumber 35 = .ok (.lstore 4, 2) := by decide +kernel
theorem dX9_saysNumber_37 : decode cX9_saysNumber 37 = .ok (.iinc 3 1, 3) := by decide +kernel
theorem dX9_saysNumber_40 : decode cX9_saysNumber 40 = .ok (.goto (-35), 3) := by decide +kernel
theorem dX9_saysNumber_43 : decode cX9_saysNumber 43 = .ok (.iload_n 3, 1) := by decide +kernel
theorem dX9_saysNumber_44 : decode cX9_saysNumber 44 = .ok (.iconst 1, 1) := by decide +kernel
theorem dX9_saysNumber_45 : decode cX9_saysNumber 45 = .ok (.isub, 1) := by decide +kernel
theorem dX9_saysNumber_46 : decode cX9_saysNumber 46 = .ok (.istore 6, 2) := by decide +kernel
theorem dX9_saysNumber_48 : decode cX9_saysNumber 48 = .ok (.iload 6, 2) := by decide +kernel
theorem dX9_saysNumber_50 : decode cX9_saysNumber 50 = .ok (.ifCond .lt 23, 3) := by decide +kernel
theorem dX9_saysNumber_53 : decode cX9_saysNumber 53 = .ok (.aload_n 0, 1) := by decide +kernel
theorem dX9_saysNumber_54 : decode cX9_saysNumber 54 = .ok (.bipush 48, 2) := by decide +kernel
theorem dX9_saysNumber_56 : decode cX9_saysNumber 56 = .ok (.aload_n 0, 1) := by decide +kernel
theorem dX9_saysNumber_57 : decode cX9_saysNumber 57 = .ok (.getfield 80, 3) := by decide +kernel
theorem dX9_saysNumber_60 : decode cX9_saysNumber 60 = .ok (.iload 6, 2) := by decide +kernel
theorem dX9_saysNumber_62 : decode cX9_saysNumber 62 = .ok (.iaload, 1) := by decide +kernel
theorem dX9_saysNumber_63 : decode cX9_saysNumber 63 = .ok (.iadd, 1) := by decide +kernel
theorem dX9_saysNumber_64 : decode cX9_saysNumber 64 = .ok (.invokevirtual 341, 3) := by decide +kernel
theorem dX9_saysNumber_67 : decode cX9_saysNumber 67 = .ok (.iinc 6 (-1), 3) := by decide +kernel
theorem dX9_saysNumber_70 : decode cX9_saysNumber 70 = .ok (.goto (-22), 3) := by decide +kernel
theorem dX9_saysNumber_73 : decode cX9_saysNumber 73 = .ok (.return_, 1) := by decide +kernel
theorem dX9_saysFraction_0 : decode cX9_saysFraction 0 = .ok (.aload_n 0, 1) := by decide +kernel
theorem dX9_saysFraction_1 : decode cX9_saysFraction 1 = .ok (.lload_n 1, 1) := by decide +kernel
theorem dX9_saysFraction_2 : decode cX9_saysFraction 2 = .ok (.lload_n 3, 1) := by decide +kernel
theorem dX9_saysFraction_3 : decode cX9_saysFraction 3 = .ok (.iconst 0, 1) := by decide +kernel
theorem dX9_saysFraction_4 : decode cX9_saysFraction 4 = .ok (.invokestatic 279, 3) := by decide +kernel
theorem dX9_saysFraction_7 : decode cX9_saysFraction 7 = .ok (.invokevirtual 346, 3) := by decide +kernel
theorem dX9_saysFraction_10 : decode cX9_saysFraction 10 = .ok (.lload_n 1, 1) := by decide +kernel
theorem dX9_saysFraction_11 : decode cX9_saysFraction 11 = .ok (.lload_n 3, 1) := by decide +kernel
theorem dX9_saysFraction_12 : decode cX9_saysFraction 12 = .ok (.iconst 1, 1) := by decide +kernel
theorem dX9_saysFraction_13 : decode cX9_saysFraction 13 = .ok (.invokestatic 279, 3) := by decide +kernel
theorem dX9_saysFraction_16 : decode cX9_saysFraction 16 = .ok (.lconst 1, 1) := by decide +kernel
theorem dX9_saysFraction_17 : decode cX9_saysFraction 17 = .ok (.lcmp, 1) := by decide +kernel
theorem dX9_saysFraction_18 : decode cX9_saysFraction 18 = .ok (.ifCond .ne 4, 3) := by decide +kernel
theorem dX9_saysFraction_21 : decode cX9_saysFraction 21 = .ok (.return_, 1) := by decide +kernel
theorem dX9_saysFraction_22 : decode cX9_saysFraction 22 = .ok (.aload_n 0, 1) := by decide +kernel
theorem dX9_saysFraction_23 : decode cX9_saysFraction 23 = .ok (.bipush 47, 2) := by decide +kernel
theorem dX9_saysFraction_25 : decode cX9_saysFraction 25 = .ok (.invokevirtual 341, 3) := by decide +kernel
theorem dX9_saysFraction_28 : decode cX9_saysFraction 28 = .ok (.aload_n 0, 1) := by decide +kernel
theorem dX9_saysFraction_29 : decode cX9_saysFraction 29 = .ok (.lload_n 1, 1) := by decide +kernel
theorem dX9_saysFraction_30 : decode cX9_saysFraction 30 = .ok (.lload_n 3, 1) := by decide +kernel
theorem dX9_saysFraction_31 : decode cX9_saysFraction 31 = .ok (.iconst 1, 1) := by decide +kernel
theorem dX9_saysFraction_32 : decode cX9_saysFraction 32 = .ok (.invokestatic 279, 3) := by decide +kernel
theorem dX9_saysFraction_35 : decode cX9_saysFraction 35 = .ok (.invokevirtual 346, 3) := by decide +kernel
theorem dX9_saysFraction_38 : decode cX9_saysFraction 38 = .ok (.return_, 1) := by decide +kernel
theorem dX9_says_0 : decode cX9_says 0 = .ok (.aload_n 0, 1) := by decide +kernel
theorem dX9_says_1 : decode cX9_says 1 = .ok (.iload_n 1, 1) := by decide +kernel
theorem dX9_says_2 : decode cX9_says 2 = .ok (.invokevirtual 141, 3) := by decide +kernel
theorem dX9_says_5 : decode cX9_says 5 = .ok (.ifCond .eq 11, 3) := by decide +kernel
theorem dX9_says_8 : decode cX9_says 8 = .ok (.aload_n 0, 1) := by decide +kernel
theorem dX9_says_9 : decode cX9_says 9 = .ok (.iload_n 2, 1) := by decide +kernel
theorem dX9_says_10 : decode cX9_says 10 = .ok (.invokevirtual 141, 3) := by decide +kernel
theorem dX9_says_13 : decode cX9_says 13 = .ok (.ifCond .ne 9, 3) := by decide +kernel
theorem dX9_says_16 : decode cX9_says 16 = .ok (.aload_n 0, 1) := by decide +kernel
theorem dX9_says_17 : decode cX9_says 17 = .ok (.iconst (-1), 1) := by decide +kernel
theorem dX9_says_18 : decode cX9_says 18 = .ok (.invokevirtual 125, 3) := by decide +kernel
theorem dX9_says_21 : decode cX9_says 21 = .ok (.ireturn, 1) := by decide +kernel
theorem dX9_says_22 : decode cX9_says 22 = .ok (.aload_n 0, 1) := by decide +kernel
theorem dX9_says_23 : decode cX9_says 23 = .ok (.invokevirtual 230, 3) := by decide +kernel
theorem dX9_says_26 : decode cX9_says 26 = .ok (.aload_n 0, 1) := by decide +kernel
theorem dX9_says_27 : decode cX9_says 27 = .ok (.iconst 0, 1) := by decide +kernel
theorem dX9_says_28 : decode cX9_says 28 = .ok (.putfield 338, 3) := by decide +kernel
theorem dX9_says_31 : decode cX9_says 31 = .ok (.aload_n 0, 1) := by decide +kernel
theorem dX9_says_32 : decode cX9_says 32 = .ok (.bipush 48, 2) := by decide +kernel
theorem dX9_says_34 : decode cX9_says 34 = .ok (.iload_n 1, 1) := by decide +kernel
theorem dX9_says_35 : decode cX9_says 35 = .ok (.iadd, 1) := by decide +kernel
theorem dX9_says_36 : decode cX9_says 36 = .ok (.invokevirtual 341, 3) := by decide +kernel
theorem dX9_says_39 : decode cX9_says 39 = .ok (.aload_n 0, 1) := by decide +kernel
theorem dX9_says_40 : decode cX9_says 40 = .ok (.aload_n 0, 1) := by decide +kernel
theorem dX9_says_41 : decode cX9_says 41 = .ok (.getfield 83, 3) := by decide +kernel
theorem dX9_says_44 : decode cX9_says 44 = .ok (.invokevirtual 350, 3) := by decide +kernel
theorem dX9_says_47 : decode cX9_says 47 = .ok (.aload_n 0, 1) := by decide +kernel
theorem dX9_says_48 : decode cX9_says 48 = .ok (.bipush 48, 2) := by decide +kernel
theorem dX9_says_50 : decode cX9_says 50 = .ok (.iload_n 2, 1) := by decide +kernel
theorem dX9_says_51 : decode cX9_says 51 = .ok (.iadd, 1) := by decide +kernel
theorem dX9_says_52 : decode cX9_says 52 = .ok (.invokevirtual 341, 3) := by decide +kernel
theorem dX9_says_55 : decode cX9_says 55 = .ok (.aload_n 0, 1) := by decide +kernel
theorem dX9_says_56 : decode cX9_says 56 = .ok (.bipush 58, 2) := by decide +kernel
theorem dX9_says_58 : decode cX9_says 58 = .ok (.invokevirtual 341, 3) := by decide +kernel
theorem dX9_says_61 : decode cX9_says 61 = .ok (.aload_n 0, 1) := by decide +kernel
theorem dX9_says_62 : decode cX9_says 62 = .ok (.bipush 32, 2) := by decide +kernel
theorem dX9_says_64 : decode cX9_says 64 = .ok (.invokevirtual 341, 3) := by decide +kernel
theorem dX9_says_67 : decode cX9_says 67 = .ok (.aload_n 0, 1) := by decide +kernel
theorem dX9_says_68 : decode cX9_says 68 = .ok (.iload_n 1, 1) := by decide +kernel
theorem dX9_says_69 : decode cX9_says 69 = .ok (.iload_n 2, 1) := by decide +kernel
theorem dX9_says_70 : decode cX9_says 70 = .ok (.invokevirtual 293, 3) := by decide +kernel
theorem dX9_says_73 : decode cX9_says 73 = .ok (.ifCond .eq 54, 3) := by decide +kernel
theorem dX9_says_76 : decode cX9_says 76 = .ok (.aload_n 0, 1) := by decide +kernel
theorem dX9_says_77 : decode cX9_says 77 = .ok (.iload_n 1, 1) := by decide +kernel
theorem dX9_says_78 : decode cX9_says 78 = .ok (.iload_n 2, 1) := by decide +kernel
theorem dX9_says_79 : decode cX9_says 79 = .ok (.iconst 0, 1) := by decide +kernel
theorem dX9_says_80 : decode cX9_says 80 = .ok (.invokevirtual 275, 3) := by decide +kernel
theorem dX9_says_83 : decode cX9_says 83 = .ok (.pop, 1) := by decide +kernel
theorem dX9_says_84 : decode cX9_says 84 = .ok (.aload_n 0, 1) := by decide +kernel
theorem dX9_says_85 : decode cX9_says 85 = .ok (.aload_n 0, 1) := by decide +kernel
theorem dX9_says_86 : decode cX9_says 86 = .ok (.getfield 248, 3) := by decide +kernel
theorem dX9_says_89 : decode cX9_says 89 = .ok (.aload_n 0, 1) := by decide +kernel
theorem dX9_says_90 : decode cX9_says 90 = .ok (.getfield 252, 3) := by decide +kernel
theorem dX9_says_93 : decode cX9_says 93 = .ok (.invokevirtual 354, 3) := by decide +kernel
theorem dX9_says_96 : decode cX9_says 96 = .ok (.aload_n 0, 1) := by decide +kernel
theorem dX9_says_97 : decode cX9_says 97 = .ok (.aload_n 0, 1) := by decide +kernel
theorem dX9_says_98 : decode cX9_says 98 = .ok (.getfield 89, 3) := by decide +kernel
theorem dX9_says_101 : decode cX9_says 101 = .ok (.invokevirtual 350, 3) := by decide +kernel
theorem dX9_says_104 : decode cX9_says 104 = .ok (.aload_n 0, 1) := by decide +kernel
theorem dX9_says_105 : decode cX9_says 105 = .ok (.aload_n 0, 1) := by decide +kernel
theorem dX9_says_106 : decode cX9_says 106 = .ok (.getfield 287, 3) := by decide +kernel
theorem dX9_says_109 : decode cX9_says 109 = .ok (.aload_n 0, 1) := by decide +kernel
theorem dX9_says_110 : decode cX9_says 110 = .ok (.getfield 290, 3) := by decide +kernel
theorem dX9_says_113 : decode cX9_says 113 = .ok (.invokevirtual 354, 3) := by decide +kernel
theorem dX9_says_116 : decode cX9_says 116 = .ok (.aload_n 0, 1) := by decide +kernel
theorem dX9_says_117 : decode cX9_says 117 = .ok (.aload_n 0, 1) := by decide +kernel
theorem dX9_says_118 : decode cX9_says 118 = .ok (.getfield 92, 3) := by decide +kernel
theorem dX9_says_121 : decode cX9_says 121 = .ok (.invokevirtual 350, 3) := by decide +kernel
theorem dX9_says_124 : decode cX9_says 124 = .ok (.goto 11, 3) := by decide +kernel
theorem dX9_says_127 : decode cX9_says 127 = .ok (.aload_n 0, 1) := by decide +kernel
theorem dX9_says_128 : decode cX9_says 128 = .ok (.aload_n 0, 1) := by decide +kernel
theorem dX9_says_129 : decode cX9_says 129 = .ok (.getfield 86, 3) := by decide +kernel
theorem dX9_says_132 : decode cX9_says 132 = .ok (.invokevirtual 350, 3) := by decide +kernel
theorem dX9_says_135 : decode cX9_says 135 = .ok (.iload_n 3, 1) := by decide +kernel
theorem dX9_says_136 : decode cX9_says 136 = .ok (.iconst (-1), 1) := by decide +kernel
theorem dX9_says_137 : decode cX9_says 137 = .ok (.if_icmp .ne 8, 3) := by decide +kernel
theorem dX9_says_140 : decode cX9_says 140 = .ok (.aload_n 0, 1) := by decide +kernel
theorem dX9_says_141 : decode cX9_says 141 = .ok (.getfield 338, 3) := by decide +kernel
theorem dX9_says_144 : decode cX9_says 144 = .ok (.ireturn, 1) := by decide +kernel
theorem dX9_says_145 : decode cX9_says 145 = .ok (.iload_n 3, 1) := by decide +kernel
theorem dX9_says_146 : decode cX9_says 146 = .ok (.i2l, 1) := by decide +kernel
theorem dX9_says_147 : decode cX9_says 147 = .ok (.lconst 0, 1) := by decide +kernel
theorem dX9_says_148 : decode cX9_says 148 = .ok (.aload_n 0, 1) := by decide +kernel
theorem dX9_says_149 : decode cX9_says 149 = .ok (.getfield 338, 3) := by decide +kernel
theorem dX9_says_152 : decode cX9_says 152 = .ok (.iconst 1, 1) := by decide +kernel
theorem dX9_says_153 : decode cX9_says 153 = .ok (.isub, 1) := by decide +kernel
theorem dX9_says_154 : decode cX9_says 154 = .ok (.i2l, 1) := by decide +kernel
theorem dX9_says_155 : decode cX9_says 155 = .ok (.invokestatic 116, 3) := by decide +kernel
theorem dX9_says_158 : decode cX9_says 158 = .ok (.ifCond .eq 12, 3) := by decide +kernel
theorem dX9_says_161 : decode cX9_says 161 = .ok (.aload_n 0, 1) := by decide +kernel
theorem dX9_says_162 : decode cX9_says 162 = .ok (.getfield 77, 3) := by decide +kernel
theorem dX9_says_165 : decode cX9_says 165 = .ok (.iload_n 3, 1) := by decide +kernel
theorem dX9_says_166 : decode cX9_says 166 = .ok (.iaload, 1) := by decide +kernel
theorem dX9_says_167 : decode cX9_says 167 = .ok (.goto 8, 3) := by decide +kernel
theorem dX9_says_170 : decode cX9_says 170 = .ok (.aload_n 0, 1) := by decide +kernel
theorem dX9_says_171 : decode cX9_says 171 = .ok (.iconst (-1), 1) := by decide +kernel
theorem dX9_says_172 : decode cX9_says 172 = .ok (.invokevirtual 125, 3) := by decide +kernel
theorem dX9_says_175 : decode cX9_says 175 = .ok (.ireturn, 1) := by decide +kernel
theorem dX9_row_0 : decode cX9_row 0 = .ok (.iload_n 1, 1) := by decide +kernel
theorem dX9_row_1 : decode cX9_row 1 = .ok (.ifCond .ge 10, 3) := by decide +kernel
theorem dX9_row_4 : decode cX9_row 4 = .ok (.aload_n 0, 1) := by decide +kernel
theorem dX9_row_5 : decode cX9_row 5 = .ok (.bipush (-4), 2) := by decide +kernel
theorem dX9_row_7 : decode cX9_row 7 = .ok (.invokevirtual 125, 3) := by decide +kernel
theorem dX9_row_10 : decode cX9_row 10 = .ok (.ireturn, 1) := by decide +kernel
theorem dX9_row_11 : decode cX9_row 11 = .ok (.iload_n 1, 1) := by decide +kernel
theorem dX9_row_12 : decode cX9_row 12 = .ok (.bipush 99, 2) := by decide +kernel
theorem dX9_row_14 : decode cX9_row 14 = .ok (.if_icmp .gt 12, 3) := by decide +kernel
theorem dX9_row_17 : decode cX9_row 17 = .ok (.aload_n 0, 1) := by decide +kernel
theorem dX9_row_18 : decode cX9_row 18 = .ok (.getfield 358, 3) := by decide +kernel
theorem dX9_row_21 : decode cX9_row 21 = .ok (.bipush 10, 2) := by decide +kernel
theorem dX9_row_23 : decode cX9_row 23 = .ok (.if_icmp .ne 10, 3) := by decide +kernel
theorem dX9_row_26 : decode cX9_row 26 = .ok (.aload_n 0, 1) := by decide +kernel
theorem dX9_row_27 : decode cX9_row 27 = .ok (.bipush (-6), 2) := by decide +kernel
theorem dX9_row_29 : decode cX9_row 29 = .ok (.invokevirtual 125, 3) := by decide +kernel
theorem dX9_row_32 : decode cX9_row 32 = .ok (.ireturn, 1) := by decide +kernel
theorem dX9_row_33 : decode cX9_row 33 = .ok (.aload_n 0, 1) := by decide +kernel
theorem dX9_row_34 : decode cX9_row 34 = .ok (.getfield 95, 3) := by decide +kernel
theorem dX9_row_37 : decode cX9_row 37 = .ok (.aload_n 0, 1) := by decide +kernel
theorem dX9_row_38 : decode cX9_row 38 = .ok (.getfield 358, 3) := by decide +kernel
theorem dX9_row_41 : decode cX9_row 41 = .ok (.iload_n 1, 1) := by decide +kernel
theorem dX9_row_42 : decode cX9_row 42 = .ok (.iastore, 1) := by decide +kernel
theorem dX9_row_43 : decode cX9_row 43 = .ok (.aload_n 0, 1) := by decide +kernel
theorem dX9_row_44 : decode cX9_row 44 = .ok (.dup, 1) := by decide +kernel
theorem dX9_row_45 : decode cX9_row 45 = .ok (.getfield 358, 3) := by decide +kernel
theorem dX9_row_48 : decode cX9_row 48 = .ok (.iconst 1, 1) := by decide +kernel
theorem dX9_row_49 : decode cX9_row 49 = .ok (.iadd, 1) := by decide +kernel
theorem dX9_row_50 : decode cX9_row 50 = .ok (.putfield 358, 3) := by decide +kernel
theorem dX9_row_53 : decode cX9_row 53 = .ok (.aload_n 0, 1) := by decide +kernel
theorem dX9_row_54 : decode cX9_row 54 = .ok (.getfield 358, 3) := by decide +kernel
theorem dX9_row_57 : decode cX9_row 57 = .ok (.ireturn, 1) := by decide +kernel
theorem dX9_clear_0 : decode cX9_clear 0 = .ok (.aload_n 0, 1) := by decide +kernel
theorem dX9_clear_1 : decode cX9_clear 1 = .ok (.getfield 358, 3) := by decide +kernel
theorem dX9_clear_4 : decode cX9_clear 4 = .ok (.istore_n 1, 1) := by decide +kernel
theorem dX9_clear_5 : decode cX9_clear 5 = .ok (.aload_n 0, 1) := by decide +kernel
theorem dX9_clear_6 : decode cX9_clear 6 = .ok (.iconst 0, 1) := by decide +kernel
theorem dX9_clear_7 : decode cX9_clear 7 = .ok (.putfield 358, 3) := by decide +kernel
theorem dX9_clear_10 : decode cX9_clear 10 = .ok (.iload_n 1, 1) := by decide +kernel
theorem dX9_clear_11 : decode cX9_clear 11 = .ok (.ireturn, 1) := by decide +kernel
theorem dX9_isSo_0 : decode cX9_isSo 0 = .ok (.iconst 0, 1) := by decide +kernel
theorem dX9_isSo_1 : decode cX9_isSo 1 = .ok (.istore_n 3, 1) := by decide +kernel
theorem dX9_isSo_2 : decode cX9_isSo 2 = .ok (.iload_n 3, 1) := by decide +kernel
theorem dX9_isSo_3 : decode cX9_isSo 3 = .ok (.aload_n 0, 1) := by decide +kernel
theorem dX9_isSo_4 : decode cX9_isSo 4 = .ok (.getfield 358, 3) := by decide +kernel
theorem dX9_isSo_7 : decode cX9_isSo 7 = .ok (.if_icmp .ge 28, 3) := by decide +kernel
theorem dX9_isSo_10 : decode cX9_isSo 10 = .ok (.iload_n 1, 1) := by decide +kernel
theorem dX9_isSo_11 : decode cX9_isSo 11 = .ok (.iload_n 2, 1) := by decide +kernel
theorem dX9_isSo_12 : decode cX9_isSo 12 = .ok (.iload_n 3, 1) := by decide +kernel
theorem dX9_isSo_13 : decode cX9_isSo 13 = .ok (.iconst 1, 1) := by decide +kernel
theorem dX9_isSo_14 : decode cX9_isSo 14 = .ok (.iadd, 1) := by decide +kernel
theorem dX9_isSo_15 : decode cX9_isSo 15 = .ok (.invokestatic 129, 3) := by decide +kernel
theorem dX9_isSo_18 : decode cX9_isSo 18 = .ok (.aload_n 0, 1) := by decide +kernel
theorem dX9_isSo_19 : decode cX9_isSo 19 = .ok (.getfield 95, 3) := by decide +kernel
theorem dX9_isSo_22 : decode cX9_isSo 22 = .ok (.iload_n 3, 1) := by decide +kernel
theorem dX9_isSo_23 : decode cX9_isSo 23 = .ok (.iaload, 1) := by decide +kernel
theorem dX9_isSo_24 : decode cX9_isSo 24 = .ok (.if_icmp .eq 5, 3) := by decide +kernel
theorem dX9_isSo_27 : decode cX9_isSo 27 = .ok (.iconst 0, 1) := by decide +kernel
theorem dX9_isSo_28 : decode cX9_isSo 28 = .ok (.ireturn, 1) := by decide +kernel
theorem dX9_isSo_29 : decode cX9_isSo 29 = .ok (.iinc 3 1, 3) := by decide +kernel
theorem dX9_isSo_32 : decode cX9_isSo 32 = .ok (.goto (-30), 3) := by decide +kernel
theorem dX9_isSo_35 : decode cX9_isSo 35 = .ok (.iconst 1, 1) := by decide +kernel
theorem dX9_isSo_36 : decode cX9_isSo 36 = .ok (.ireturn, 1) := by decide +kernel
theorem dX9_whatIs_0 : decode cX9_whatIs 0 = .ok (.aload_n 0, 1) := by decide +kernel
theorem dX9_whatIs_1 : decode cX9_whatIs 1 = .ok (.iload_n 1, 1) := by decide +kernel
theorem dX9_whatIs_2 : decode cX9_whatIs 2 = .ok (.invokevirtual 145, 3) := by decide +kernel
theorem dX9_whatIs_5 : decode cX9_whatIs 5 = .ok (.ifCond .ne 9, 3) := by decide +kernel
theorem dX9_whatIs_8 : decode cX9_whatIs 8 = .ok (.aload_n 0, 1) := by decide +kernel
theorem dX9_whatIs_9 : decode cX9_whatIs 9 = .ok (.iconst (-1), 1) := by decide +kernel
theorem dX9_whatIs_10 : decode cX9_whatIs 10 = .ok (.invokevirtual 125, 3) := by decide +kernel
theorem dX9_whatIs_13 : decode cX9_whatIs 13 = .ok (.ireturn, 1) := by decide +kernel
theorem dX9_whatIs_14 : decode cX9_whatIs 14 = .ok (.iload_n 2, 1) := by decide +kernel
theorem dX9_whatIs_15 : decode cX9_whatIs 15 = .ok (.i2l, 1) := by decide +kernel
theorem dX9_whatIs_16 : decode cX9_whatIs 16 = .ok (.lconst 0, 1) := by decide +kernel
theorem dX9_whatIs_17 : decode cX9_whatIs 17 = .ok (.lconst 1, 1) := by decide +kernel
theorem dX9_whatIs_18 : decode cX9_whatIs 18 = .ok (.invokestatic 116, 3) := by decide +kernel
theorem dX9_whatIs_21 : decode cX9_whatIs 21 = .ok (.ifCond .ne 10, 3) := by decide +kernel
theorem dX9_whatIs_24 : decode cX9_whatIs 24 = .ok (.aload_n 0, 1) := by decide +kernel
theorem dX9_whatIs_25 : decode cX9_whatIs 25 = .ok (.bipush (-2), 2) := by decide +kernel
theorem dX9_whatIs_27 : decode cX9_whatIs 27 = .ok (.invokevirtual 125, 3) := by decide +kernel
theorem dX9_whatIs_30 : decode cX9_whatIs 30 = .ok (.ireturn, 1) := by decide +kernel
theorem dX9_whatIs_31 : decode cX9_whatIs 31 = .ok (.iconst 0, 1) := by decide +kernel
theorem dX9_whatIs_32 : decode cX9_whatIs 32 = .ok (.istore_n 3, 1) := by decide +kernel
theorem dX9_whatIs_33 : decode cX9_whatIs 33 = .ok (.iconst 0, 1) := by decide +kernel
theorem dX9_whatIs_34 : decode cX9_whatIs 34 = .ok (.istore 4, 2) := by decide +kernel
theorem dX9_whatIs_36 : decode cX9_whatIs 36 = .ok (.iload 4, 2) := by decide +kernel
theorem dX9_whatIs_38 : decode cX9_whatIs 38 = .ok (.iload_n 2, 1) := by decide +kernel
theorem dX9_whatIs_39 : decode cX9_whatIs 39 = .ok (.ifCond .ne 8, 3) := by decide +kernel
theorem dX9_whatIs_42 : decode cX9_whatIs 42 = .ok (.bipush 6, 2) := by decide +kernel
theorem dX9_whatIs_44 : decode cX9_whatIs 44 = .ok (.goto 5, 3) := by decide +kernel
theorem dX9_whatIs_47 : decode cX9_whatIs 47 = .ok (.bipush 10, 2) := by decide +kernel
theorem dX9_whatIs_49 : decode cX9_whatIs 49 = .ok (.if_icmp .ge 57, 3) := by decide +kernel
theorem dX9_whatIs_52 : decode cX9_whatIs 52 = .ok (.iload_n 3, 1) := by decide +kernel
theorem dX9_whatIs_53 : decode cX9_whatIs 53 = .ok (.iload_n 2, 1) := by decide +kernel
theorem dX9_whatIs_54 : decode cX9_whatIs 54 = .ok (.ifCond .ne 21, 3) := by decide +kernel
theorem dX9_whatIs_57 : decode cX9_whatIs 57 = .ok (.aload_n 0, 1) := by decide +kernel
theorem dX9_whatIs_58 : decode cX9_whatIs 58 = .ok (.iload 4, 2) := by decide +kernel
theorem dX9_whatIs_60 : decode cX9_whatIs 60 = .ok (.aload_n 0, 1) := by decide +kernel
theorem dX9_whatIs_61 : decode cX9_whatIs 61 = .ok (.getfield 23, 3) := by decide +kernel
theorem dX9_whatIs_64 : decode cX9_whatIs 64 = .ok (.iload_n 1, 1) := by decide +kernel
theorem dX9_whatIs_65 : decode cX9_whatIs 65 = .ok (.iaload, 1) := by decide +kernel
theorem dX9_whatIs_66 : decode cX9_whatIs 66 = .ok (.invokevirtual 361, 3) := by decide +kernel
theorem dX9_whatIs_69 : decode cX9_whatIs 69 = .ok (.ifCond .eq 28, 3) := by decide +kernel
theorem dX9_whatIs_72 : decode cX9_whatIs 72 = .ok (.goto 18, 3) := by decide +kernel
theorem dX9_whatIs_75 : decode cX9_whatIs 75 = .ok (.aload_n 0, 1) := by decide +kernel
theorem dX9_whatIs_76 : decode cX9_whatIs 76 = .ok (.aload_n 0, 1) := by decide +kernel
theorem dX9_whatIs_77 : decode cX9_whatIs 77 = .ok (.getfield 20, 3) := by decide +kernel
theorem dX9_whatIs_80 : decode cX9_whatIs 80 = .ok (.iload_n 1, 1) := by decide +kernel
theorem dX9_whatIs_81 : decode cX9_whatIs 81 = .ok (.iaload, 1) := by decide +kernel
theorem dX9_whatIs_82 : decode cX9_whatIs 82 = .ok (.iload 4, 2) := by decide +kernel
theorem dX9_whatIs_84 : decode cX9_whatIs 84 = .ok (.invokevirtual 361, 3) := by decide +kernel
theorem dX9_whatIs_87 : decode cX9_whatIs 87 = .ok (.ifCond .eq 10, 3) := by decide +kernel
theorem dX9_whatIs_90 : decode cX9_whatIs 90 = .ok (.iconst 1, 1) := by decide +kernel
theorem dX9_whatIs_91 : decode cX9_whatIs 91 = .ok (.iload 4, 2) := by decide +kernel
theorem dX9_whatIs_93 : decode cX9_whatIs 93 = .ok (.ishl, 1) := by decide +kernel
theorem dX9_whatIs_94 : decode cX9_whatIs 94 = .ok (.goto 4, 3) := by decide +kernel
theorem dX9_whatIs_97 : decode cX9_whatIs 97 = .ok (.iconst 0, 1) := by decide +kernel
theorem dX9_whatIs_98 : decode cX9_whatIs 98 = .ok (.ior, 1) := by decide +kernel
theorem dX9_whatIs_99 : decode cX9_whatIs 99 = .ok (.istore_n 3, 1) := by decide +kernel
theorem dX9_whatIs_100 : decode cX9_whatIs 100 = .ok (.iinc 4 1, 3) := by decide +kernel
theorem dX9_whatIs_103 : decode cX9_whatIs 103 = .ok (.goto (-67), 3) := by decide +kernel
theorem dX9_whatIs_106 : decode cX9_whatIs 106 = .ok (.iload_n 3, 1) := by decide +kernel
theorem dX9_whatIs_107 : decode cX9_whatIs 107 = .ok (.ireturn, 1) := by decide +kernel
theorem dX9_isList_0 : decode cX9_isList 0 = .ok (.iload_n 0, 1) := by decide +kernel
theorem dX9_isList_1 : decode cX9_isList 1 = .ok (.i2l, 1) := by decide +kernel
theorem dX9_isList_2 : decode cX9_isList 2 = .ok (.lconst 0, 1) := by decide +kernel
theorem dX9_isList_3 : decode cX9_isList 3 = .ok (.ldc2_w 364, 3) := by decide +kernel
theorem dX9_isList_6 : decode cX9_isList 6 = .ok (.invokestatic 116, 3) := by decide +kernel
theorem dX9_isList_9 : decode cX9_isList 9 = .ok (.ireturn, 1) := by decide +kernel
theorem dX9_list_0 : decode cX9_list 0 = .ok (.iload_n 1, 1) := by decide +kernel
theorem dX9_list_1 : decode cX9_list 1 = .ok (.invokestatic 366, 3) := by decide +kernel
theorem dX9_list_4 : decode cX9_list 4 = .ok (.ifCond .ne 9, 3) := by decide +kernel
theorem dX9_list_7 : decode cX9_list 7 = .ok (.aload_n 0, 1) := by decide +kernel
theorem dX9_list_8 : decode cX9_list 8 = .ok (.iconst (-1), 1) := by decide +kernel
theorem dX9_list_9 : decode cX9_list 9 = .ok (.invokevirtual 125, 3) := by decide +kernel
theorem dX9_list_12 : decode cX9_list 12 = .ok (.ireturn, 1) := by decide +kernel
theorem dX9_list_13 : decode cX9_list 13 = .ok (.iload_n 2, 1) := by decide +kernel
theorem dX9_list_14 : decode cX9_list 14 = .ok (.bipush 20, 2) := by decide +kernel
theorem dX9_list_16 : decode cX9_list 16 = .ok (.if_icmp .le 10, 3) := by decide +kernel
theorem dX9_list_19 : decode cX9_list 19 = .ok (.aload_n 0, 1) := by decide +kernel
theorem dX9_list_20 : decode cX9_list 20 = .ok (.bipush (-6), 2) := by decide +kernel
theorem dX9_list_22 : decode cX9_list 22 = .ok (.invokevirtual 125, 3) := by decide +kernel
theorem dX9_list_25 : decode cX9_list 25 = .ok (.ireturn, 1) := by decide +kernel
theorem dX9_list_26 : decode cX9_list 26 = .ok (.iload_n 2, 1) := by decide +kernel
theorem dX9_list_27 : decode cX9_list 27 = .ok (.ifCond .ge 6, 3) := by decide +kernel
theorem dX9_list_30 : decode cX9_list 30 = .ok (.bipush (-14), 2) := by decide +kernel
theorem dX9_list_32 : decode cX9_list 32 = .ok (.ireturn, 1) := by decide +kernel
theorem dX9_list_33 : decode cX9_list 33 = .ok (.aload_n 0, 1) := by decide +kernel
theorem dX9_list_34 : decode cX9_list 34 = .ok (.getfield 101, 3) := by decide +kernel
theorem dX9_list_37 : decode cX9_list 37 = .ok (.iload_n 1, 1) := by decide +kernel
theorem dX9_list_38 : decode cX9_list 38 = .ok (.iload_n 2, 1) := by decide +kernel
theorem dX9_list_39 : decode cX9_list 39 = .ok (.iastore, 1) := by decide +kernel
theorem dX9_list_40 : decode cX9_list 40 = .ok (.iconst 0, 1) := by decide +kernel
theorem dX9_list_41 : decode cX9_list 41 = .ok (.istore_n 3, 1) := by decide +kernel
theorem dX9_list_42 : decode cX9_list 42 = .ok (.iload_n 3, 1) := by decide +kernel
theorem dX9_list_43 : decode cX9_list 43 = .ok (.bipush 20, 2) := by decide +kernel
theorem dX9_list_45 : decode cX9_list 45 = .ok (.if_icmp .ge 21, 3) := by decide +kernel
theorem dX9_list_48 : decode cX9_list 48 = .ok (.aload_n 0, 1) := by decide +kernel
theorem dX9_list_49 : decode cX9_list 49 = .ok (.getfield 98, 3) := by decide +kernel
theorem dX9_list_52 : decode cX9_list 52 = .ok (.bipush 20, 2) := by decide +kernel
theorem dX9_list_54 : decode cX9_list 54 = .ok (.iload_n 1, 1) := by decide +kernel
theorem dX9_list_55 : decode cX9_list 55 = .ok (.imul, 1) := by decide +kernel
