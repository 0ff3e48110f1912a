theorem dX8_added_256 : decode cX8_added 256 = .ok (.iinc 11 1, 3) := by decide +kernel
theorem dX8_added_259 : decode cX8_added 259 = .ok (.goto (-138), 3) := by decide +kernel
theorem dX8_added_262 : decode cX8_added 262 = .ok (.iinc 10 1, 3) := by decide +kernel
theorem dX8_added_265 : decode cX8_added 265 = .ok (.goto (-162), 3) := by decide +kernel
theorem dX8_added_268 : decode cX8_added 268 = .ok (.iload 8, 2) := by decide +kernel
theorem dX8_added_270 : decode cX8_added 270 = .ok (.ireturn, 1) := by decide +kernel
theorem dX8_missed_0 : decode cX8_missed 0 = .ok (.aload_n 0, 1) := by decide +kernel
theorem dX8_missed_1 : decode cX8_missed 1 = .ok (.iload_n 1, 1) := by decide +kernel
theorem dX8_missed_2 : decode cX8_missed 2 = .ok (.iload_n 2, 1) := by decide +kernel
theorem dX8_missed_3 : decode cX8_missed 3 = .ok (.invokevirtual 210, 3) := by decide +kernel
theorem dX8_missed_6 : decode cX8_missed 6 = .ok (.ifCond .ne 9, 3) := by decide +kernel
theorem dX8_missed_9 : decode cX8_missed 9 = .ok (.aload_n 0, 1) := by decide +kernel
theorem dX8_missed_10 : decode cX8_missed 10 = .ok (.iconst (-1), 1) := by decide +kernel
theorem dX8_missed_11 : decode cX8_missed 11 = .ok (.invokevirtual 94, 3) := by decide +kernel
theorem dX8_missed_14 : decode cX8_missed 14 = .ok (.ireturn, 1) := by decide +kernel
theorem dX8_missed_15 : decode cX8_missed 15 = .ok (.bipush (-9), 2) := by decide +kernel
theorem dX8_missed_17 : decode cX8_missed 17 = .ok (.istore_n 3, 1) := by decide +kernel
theorem dX8_missed_18 : decode cX8_missed 18 = .ok (.lconst 0, 1) := by decide +kernel
theorem dX8_missed_19 : decode cX8_missed 19 = .ok (.lstore 4, 2) := by decide +kernel
theorem dX8_missed_21 : decode cX8_missed 21 = .ok (.lconst 1, 1) := by decide +kernel
theorem dX8_missed_22 : decode cX8_missed 22 = .ok (.lstore 6, 2) := by decide +kernel
theorem dX8_missed_24 : decode cX8_missed 24 = .ok (.iconst 0, 1) := by decide +kernel
theorem dX8_missed_25 : decode cX8_missed 25 = .ok (.istore 8, 2) := by decide +kernel
theorem dX8_missed_27 : decode cX8_missed 27 = .ok (.iload 8, 2) := by decide +kernel
theorem dX8_missed_29 : decode cX8_missed 29 = .ok (.aload_n 0, 1) := by decide +kernel
theorem dX8_missed_30 : decode cX8_missed 30 = .ok (.getfield 10, 3) := by decide +kernel
theorem dX8_missed_33 : decode cX8_missed 33 = .ok (.getfield 227, 3) := by decide +kernel
theorem dX8_missed_36 : decode cX8_missed 36 = .ok (.if_icmp .ge 115, 3) := by decide +kernel
theorem dX8_missed_39 : decode cX8_missed 39 = .ok (.aload_n 0, 1) := by decide +kernel
theorem dX8_missed_40 : decode cX8_missed 40 = .ok (.getfield 10, 3) := by decide +kernel
theorem dX8_missed_43 : decode cX8_missed 43 = .ok (.invokevirtual 157, 3) := by decide +kernel
theorem dX8_missed_46 : decode cX8_missed 46 = .ok (.iconst 1, 1) := by decide +kernel
theorem dX8_missed_47 : decode cX8_missed 47 = .ok (.iload 8, 2) := by decide +kernel
theorem dX8_missed_49 : decode cX8_missed 49 = .ok (.ishl, 1) := by decide +kernel
theorem dX8_missed_50 : decode cX8_missed 50 = .ok (.iconst (-1), 1) := by decide +kernel
theorem dX8_missed_51 : decode cX8_missed 51 = .ok (.ixor, 1) := by decide +kernel
theorem dX8_missed_52 : decode cX8_missed 52 = .ok (.iand, 1) := by decide +kernel
theorem dX8_missed_53 : decode cX8_missed 53 = .ok (.istore 9, 2) := by decide +kernel
theorem dX8_missed_55 : decode cX8_missed 55 = .ok (.aload_n 0, 1) := by decide +kernel
theorem dX8_missed_56 : decode cX8_missed 56 = .ok (.getfield 10, 3) := by decide +kernel
theorem dX8_missed_59 : decode cX8_missed 59 = .ok (.iconst 1, 1) := by decide +kernel
theorem dX8_missed_60 : decode cX8_missed 60 = .ok (.iload_n 1, 1) := by decide +kernel
theorem dX8_missed_61 : decode cX8_missed 61 = .ok (.ishl, 1) := by decide +kernel
theorem dX8_missed_62 : decode cX8_missed 62 = .ok (.iload 9, 2) := by decide +kernel
theorem dX8_missed_64 : decode cX8_missed 64 = .ok (.invokevirtual 161, 3) := by decide +kernel
theorem dX8_missed_67 : decode cX8_missed 67 = .ok (.iload_n 2, 1) := by decide +kernel
theorem dX8_missed_68 : decode cX8_missed 68 = .ok (.invokestatic 203, 3) := by decide +kernel
theorem dX8_missed_71 : decode cX8_missed 71 = .ok (.ifCond .ne 6, 3) := by decide +kernel
theorem dX8_missed_74 : decode cX8_missed 74 = .ok (.iload 8, 2) := by decide +kernel
theorem dX8_missed_76 : decode cX8_missed 76 = .ok (.ireturn, 1) := by decide +kernel
theorem dX8_missed_77 : decode cX8_missed 77 = .ok (.aload_n 0, 1) := by decide +kernel
theorem dX8_missed_78 : decode cX8_missed 78 = .ok (.getfield 29, 3) := by decide +kernel
theorem dX8_missed_81 : decode cX8_missed 81 = .ok (.aload_n 0, 1) := by decide +kernel
theorem dX8_missed_82 : decode cX8_missed 82 = .ok (.getfield 10, 3) := by decide +kernel
theorem dX8_missed_85 : decode cX8_missed 85 = .ok (.iload 9, 2) := by decide +kernel
theorem dX8_missed_87 : decode cX8_missed 87 = .ok (.iload_n 1, 1) := by decide +kernel
theorem dX8_missed_88 : decode cX8_missed 88 = .ok (.iload_n 2, 1) := by decide +kernel
theorem dX8_missed_89 : decode cX8_missed 89 = .ok (.invokevirtual 193, 3) := by decide +kernel
theorem dX8_missed_92 : decode cX8_missed 92 = .ok (.iload_n 3, 1) := by decide +kernel
theorem dX8_missed_93 : decode cX8_missed 93 = .ok (.ifCond .lt 29, 3) := by decide +kernel
theorem dX8_missed_96 : decode cX8_missed 96 = .ok (.aload_n 0, 1) := by decide +kernel
theorem dX8_missed_97 : decode cX8_missed 97 = .ok (.getfield 29, 3) := by decide +kernel
theorem dX8_missed_100 : decode cX8_missed 100 = .ok (.getfield 175, 3) := by decide +kernel
theorem dX8_missed_103 : decode cX8_missed 103 = .ok (.iload_n 1, 1) := by decide +kernel
theorem dX8_missed_104 : decode cX8_missed 104 = .ok (.laload, 1) := by decide +kernel
theorem dX8_missed_105 : decode cX8_missed 105 = .ok (.aload_n 0, 1) := by decide +kernel
theorem dX8_missed_106 : decode cX8_missed 106 = .ok (.getfield 29, 3) := by decide +kernel
theorem dX8_missed_109 : decode cX8_missed 109 = .ok (.getfield 178, 3) := by decide +kernel
theorem dX8_missed_112 : decode cX8_missed 112 = .ok (.lload 4, 2) := by decide +kernel
theorem dX8_missed_114 : decode cX8_missed 114 = .ok (.lload 6, 2) := by decide +kernel
theorem dX8_missed_116 : decode cX8_missed 116 = .ok (.invokestatic 223, 3) := by decide +kernel
theorem dX8_missed_119 : decode cX8_missed 119 = .ok (.ifCond .le 26, 3) := by decide +kernel
theorem dX8_missed_122 : decode cX8_missed 122 = .ok (.iload 8, 2) := by decide +kernel
theorem dX8_missed_124 : decode cX8_missed 124 = .ok (.istore_n 3, 1) := by decide +kernel
theorem dX8_missed_125 : decode cX8_missed 125 = .ok (.aload_n 0, 1) := by decide +kernel
theorem dX8_missed_126 : decode cX8_missed 126 = .ok (.getfield 29, 3) := by decide +kernel
theorem dX8_missed_129 : decode cX8_missed 129 = .ok (.getfield 175, 3) := by decide +kernel
theorem dX8_missed_132 : decode cX8_missed 132 = .ok (.iload_n 1, 1) := by decide +kernel
theorem dX8_missed_133 : decode cX8_missed 133 = .ok (.laload, 1) := by decide +kernel
theorem dX8_missed_134 : decode cX8_missed 134 = .ok (.lstore 4, 2) := by decide +kernel
theorem dX8_missed_136 : decode cX8_missed 136 = .ok (.aload_n 0, 1) := by decide +kernel
theorem dX8_missed_137 : decode cX8_missed 137 = .ok (.getfield 29, 3) := by decide +kernel
theorem dX8_missed_140 : decode cX8_missed 140 = .ok (.getfield 178, 3) := by decide +kernel
theorem dX8_missed_143 : decode cX8_missed 143 = .ok (.lstore 6, 2) := by decide +kernel
theorem dX8_missed_145 : decode cX8_missed 145 = .ok (.iinc 8 1, 3) := by decide +kernel
theorem dX8_missed_148 : decode cX8_missed 148 = .ok (.goto (-121), 3) := by decide +kernel
theorem dX8_missed_151 : decode cX8_missed 151 = .ok (.iload_n 3, 1) := by decide +kernel
theorem dX8_missed_152 : decode cX8_missed 152 = .ok (.ireturn, 1) := by decide +kernel
theorem dX8_bridges_0 : decode cX8_bridges 0 = .ok (.aload_n 0, 1) := by decide +kernel
theorem dX8_bridges_1 : decode cX8_bridges 1 = .ok (.iload_n 1, 1) := by decide +kernel
theorem dX8_bridges_2 : decode cX8_bridges 2 = .ok (.iload_n 2, 1) := by decide +kernel
theorem dX8_bridges_3 : decode cX8_bridges 3 = .ok (.invokevirtual 210, 3) := by decide +kernel
theorem dX8_bridges_6 : decode cX8_bridges 6 = .ok (.ifCond .ne 9, 3) := by decide +kernel
theorem dX8_bridges_9 : decode cX8_bridges 9 = .ok (.aload_n 0, 1) := by decide +kernel
theorem dX8_bridges_10 : decode cX8_bridges 10 = .ok (.iconst (-1), 1) := by decide +kernel
theorem dX8_bridges_11 : decode cX8_bridges 11 = .ok (.invokevirtual 94, 3) := by decide +kernel
theorem dX8_bridges_14 : decode cX8_bridges 14 = .ok (.ireturn, 1) := by decide +kernel
theorem dX8_bridges_15 : decode cX8_bridges 15 = .ok (.aload_n 0, 1) := by decide +kernel
theorem dX8_bridges_16 : decode cX8_bridges 16 = .ok (.getfield 10, 3) := by decide +kernel
theorem dX8_bridges_19 : decode cX8_bridges 19 = .ok (.iconst 1, 1) := by decide +kernel
theorem dX8_bridges_20 : decode cX8_bridges 20 = .ok (.iload_n 1, 1) := by decide +kernel
theorem dX8_bridges_21 : decode cX8_bridges 21 = .ok (.ishl, 1) := by decide +kernel
theorem dX8_bridges_22 : decode cX8_bridges 22 = .ok (.aload_n 0, 1) := by decide +kernel
theorem dX8_bridges_23 : decode cX8_bridges 23 = .ok (.getfield 10, 3) := by decide +kernel
theorem dX8_bridges_26 : decode cX8_bridges 26 = .ok (.invokevirtual 157, 3) := by decide +kernel
theorem dX8_bridges_29 : decode cX8_bridges 29 = .ok (.invokevirtual 161, 3) := by decide +kernel
theorem dX8_bridges_32 : decode cX8_bridges 32 = .ok (.iload_n 2, 1) := by decide +kernel
theorem dX8_bridges_33 : decode cX8_bridges 33 = .ok (.invokestatic 203, 3) := by decide +kernel
theorem dX8_bridges_36 : decode cX8_bridges 36 = .ok (.ifCond .ne 10, 3) := by decide +kernel
theorem dX8_bridges_39 : decode cX8_bridges 39 = .ok (.aload_n 0, 1) := by decide +kernel
theorem dX8_bridges_40 : decode cX8_bridges 40 = .ok (.bipush (-3), 2) := by decide +kernel
theorem dX8_bridges_42 : decode cX8_bridges 42 = .ok (.invokevirtual 94, 3) := by decide +kernel
theorem dX8_bridges_45 : decode cX8_bridges 45 = .ok (.ireturn, 1) := by decide +kernel
theorem dX8_bridges_46 : decode cX8_bridges 46 = .ok (.iconst 0, 1) := by decide +kernel
theorem dX8_bridges_47 : decode cX8_bridges 47 = .ok (.istore_n 3, 1) := by decide +kernel
theorem dX8_bridges_48 : decode cX8_bridges 48 = .ok (.iconst 0, 1) := by decide +kernel
theorem dX8_bridges_49 : decode cX8_bridges 49 = .ok (.istore 4, 2) := by decide +kernel
theorem dX8_bridges_51 : decode cX8_bridges 51 = .ok (.iload 4, 2) := by decide +kernel
theorem dX8_bridges_53 : decode cX8_bridges 53 = .ok (.aload_n 0, 1) := by decide +kernel
theorem dX8_bridges_54 : decode cX8_bridges 54 = .ok (.getfield 10, 3) := by decide +kernel
theorem dX8_bridges_57 : decode cX8_bridges 57 = .ok (.getfield 227, 3) := by decide +kernel
theorem dX8_bridges_60 : decode cX8_bridges 60 = .ok (.if_icmp .ge 47, 3) := by decide +kernel
theorem dX8_bridges_63 : decode cX8_bridges 63 = .ok (.aload_n 0, 1) := by decide +kernel
theorem dX8_bridges_64 : decode cX8_bridges 64 = .ok (.getfield 10, 3) := by decide +kernel
theorem dX8_bridges_67 : decode cX8_bridges 67 = .ok (.iconst 1, 1) := by decide +kernel
theorem dX8_bridges_68 : decode cX8_bridges 68 = .ok (.iload_n 1, 1) := by decide +kernel
theorem dX8_bridges_69 : decode cX8_bridges 69 = .ok (.ishl, 1) := by decide +kernel
theorem dX8_bridges_70 : decode cX8_bridges 70 = .ok (.aload_n 0, 1) := by decide +kernel
theorem dX8_bridges_71 : decode cX8_bridges 71 = .ok (.getfield 10, 3) := by decide +kernel
theorem dX8_bridges_74 : decode cX8_bridges 74 = .ok (.invokevirtual 157, 3) := by decide +kernel
theorem dX8_bridges_77 : decode cX8_bridges 77 = .ok (.iconst 1, 1) := by decide +kernel
theorem dX8_bridges_78 : decode cX8_bridges 78 = .ok (.iload 4, 2) := by decide +kernel
theorem dX8_bridges_80 : decode cX8_bridges 80 = .ok (.ishl, 1) := by decide +kernel
theorem dX8_bridges_81 : decode cX8_bridges 81 = .ok (.iconst (-1), 1) := by decide +kernel
theorem dX8_bridges_82 : decode cX8_bridges 82 = .ok (.ixor, 1) := by decide +kernel
theorem dX8_bridges_83 : decode cX8_bridges 83 = .ok (.iand, 1) := by decide +kernel
theorem dX8_bridges_84 : decode cX8_bridges 84 = .ok (.invokevirtual 161, 3) := by decide +kernel
theorem dX8_bridges_87 : decode cX8_bridges 87 = .ok (.iload_n 2, 1) := by decide +kernel
theorem dX8_bridges_88 : decode cX8_bridges 88 = .ok (.invokestatic 203, 3) := by decide +kernel
theorem dX8_bridges_91 : decode cX8_bridges 91 = .ok (.ifCond .ne 10, 3) := by decide +kernel
theorem dX8_bridges_94 : decode cX8_bridges 94 = .ok (.iload_n 3, 1) := by decide +kernel
theorem dX8_bridges_95 : decode cX8_bridges 95 = .ok (.iconst 1, 1) := by decide +kernel
theorem dX8_bridges_96 : decode cX8_bridges 96 = .ok (.iload 4, 2) := by decide +kernel
theorem dX8_bridges_98 : decode cX8_bridges 98 = .ok (.ishl, 1) := by decide +kernel
theorem dX8_bridges_99 : decode cX8_bridges 99 = .ok (.ior, 1) := by decide +kernel
theorem dX8_bridges_100 : decode cX8_bridges 100 = .ok (.istore_n 3, 1) := by decide +kernel
theorem dX8_bridges_101 : decode cX8_bridges 101 = .ok (.iinc 4 1, 3) := by decide +kernel
theorem dX8_bridges_104 : decode cX8_bridges 104 = .ok (.goto (-53), 3) := by decide +kernel
theorem dX8_bridges_107 : decode cX8_bridges 107 = .ok (.iload_n 3, 1) := by decide +kernel
theorem dX8_bridges_108 : decode cX8_bridges 108 = .ok (.ireturn, 1) := by decide +kernel
theorem dX8_farthest_0 : decode cX8_farthest 0 = .ok (.aload_n 0, 1) := by decide +kernel
theorem dX8_farthest_1 : decode cX8_farthest 1 = .ok (.getfield 10, 3) := by decide +kernel
theorem dX8_farthest_4 : decode cX8_farthest 4 = .ok (.iload_n 1, 1) := by decide +kernel
theorem dX8_farthest_5 : decode cX8_farthest 5 = .ok (.invokevirtual 154, 3) := by decide +kernel
theorem dX8_farthest_8 : decode cX8_farthest 8 = .ok (.ifCond .ne 9, 3) := by decide +kernel
theorem dX8_farthest_11 : decode cX8_farthest 11 = .ok (.aload_n 0, 1) := by decide +kernel
theorem dX8_farthest_12 : decode cX8_farthest 12 = .ok (.iconst (-1), 1) := by decide +kernel
theorem dX8_farthest_13 : decode cX8_farthest 13 = .ok (.invokevirtual 94, 3) := by decide +kernel
theorem dX8_farthest_16 : decode cX8_farthest 16 = .ok (.ireturn, 1) := by decide +kernel
theorem dX8_farthest_17 : decode cX8_farthest 17 = .ok (.aload_n 0, 1) := by decide +kernel
theorem dX8_farthest_18 : decode cX8_farthest 18 = .ok (.getfield 10, 3) := by decide +kernel
theorem dX8_farthest_21 : decode cX8_farthest 21 = .ok (.iconst 1, 1) := by decide +kernel
theorem dX8_farthest_22 : decode cX8_farthest 22 = .ok (.iload_n 1, 1) := by decide +kernel
theorem dX8_farthest_23 : decode cX8_farthest 23 = .ok (.ishl, 1) := by decide +kernel
theorem dX8_farthest_24 : decode cX8_farthest 24 = .ok (.aload_n 0, 1) := by decide +kernel
theorem dX8_farthest_25 : decode cX8_farthest 25 = .ok (.getfield 10, 3) := by decide +kernel
theorem dX8_farthest_28 : decode cX8_farthest 28 = .ok (.invokevirtual 157, 3) := by decide +kernel
theorem dX8_farthest_31 : decode cX8_farthest 31 = .ok (.invokevirtual 161, 3) := by decide +kernel
theorem dX8_farthest_34 : decode cX8_farthest 34 = .ok (.istore_n 2, 1) := by decide +kernel
theorem dX8_farthest_35 : decode cX8_farthest 35 = .ok (.bipush (-9), 2) := by decide +kernel
theorem dX8_farthest_37 : decode cX8_farthest 37 = .ok (.istore_n 3, 1) := by decide +kernel
theorem dX8_farthest_38 : decode cX8_farthest 38 = .ok (.lconst 0, 1) := by decide +kernel
theorem dX8_farthest_39 : decode cX8_farthest 39 = .ok (.lstore 4, 2) := by decide +kernel
theorem dX8_farthest_41 : decode cX8_farthest 41 = .ok (.lconst 1, 1) := by decide +kernel
theorem dX8_farthest_42 : decode cX8_farthest 42 = .ok (.lstore 6, 2) := by decide +kernel
theorem dX8_farthest_44 : decode cX8_farthest 44 = .ok (.iconst 0, 1) := by decide +kernel
theorem dX8_farthest_45 : decode cX8_farthest 45 = .ok (.istore 8, 2) := by decide +kernel
theorem dX8_farthest_47 : decode cX8_farthest 47 = .ok (.iload 8, 2) := by decide +kernel
theorem dX8_farthest_49 : decode cX8_farthest 49 = .ok (.aload_n 0, 1) := by decide +kernel
theorem dX8_farthest_50 : decode cX8_farthest 50 = .ok (.getfield 10, 3) := by decide +kernel
theorem dX8_farthest_53 : decode cX8_farthest 53 = .ok (.getfield 216, 3) := by decide +kernel
theorem dX8_farthest_56 : decode cX8_farthest 56 = .ok (.if_icmp .ge 100, 3) := by decide +kernel
theorem dX8_farthest_59 : decode cX8_farthest 59 = .ok (.iload 8, 2) := by decide +kernel
theorem dX8_farthest_61 : decode cX8_farthest 61 = .ok (.iload_n 1, 1) := by decide +kernel
theorem dX8_farthest_62 : decode cX8_farthest 62 = .ok (.if_icmp .eq 88, 3) := by decide +kernel
theorem dX8_farthest_65 : decode cX8_farthest 65 = .ok (.iload_n 2, 1) := by decide +kernel
theorem dX8_farthest_66 : decode cX8_farthest 66 = .ok (.iload 8, 2) := by decide +kernel
theorem dX8_farthest_68 : decode cX8_farthest 68 = .ok (.invokestatic 203, 3) := by decide +kernel
theorem dX8_farthest_71 : decode cX8_farthest 71 = .ok (.ifCond .ne 6, 3) := by decide +kernel
theorem dX8_farthest_74 : decode cX8_farthest 74 = .ok (.goto 76, 3) := by decide +kernel
theorem dX8_farthest_77 : decode cX8_farthest 77 = .ok (.aload_n 0, 1) := by decide +kernel
theorem dX8_farthest_78 : decode cX8_farthest 78 = .ok (.getfield 29, 3) := by decide +kernel
theorem dX8_farthest_81 : decode cX8_farthest 81 = .ok (.aload_n 0, 1) := by decide +kernel
theorem dX8_farthest_82 : decode cX8_farthest 82 = .ok (.getfield 10, 3) := by decide +kernel
theorem dX8_farthest_85 : decode cX8_farthest 85 = .ok (.aload_n 0, 1) := by decide +kernel
theorem dX8_farthest_86 : decode cX8_farthest 86 = .ok (.getfield 10, 3) := by decide +kernel
theorem dX8_farthest_89 : decode cX8_farthest 89 = .ok (.invokevirtual 157, 3) := by decide +kernel
theorem dX8_farthest_92 : decode cX8_farthest 92 = .ok (.iload 8, 2) := by decide +kernel
theorem dX8_farthest_94 : decode cX8_farthest 94 = .ok (.invokevirtual 171, 3) := by decide +kernel
theorem dX8_farthest_97 : decode cX8_farthest 97 = .ok (.iload_n 3, 1) := by decide +kernel
theorem dX8_farthest_98 : decode cX8_farthest 98 = .ok (.ifCond .lt 29, 3) := by decide +kernel
theorem dX8_farthest_101 : decode cX8_farthest 101 = .ok (.aload_n 0, 1) := by decide +kernel
theorem dX8_farthest_102 : decode cX8_farthest 102 = .ok (.getfield 29, 3) := by decide +kernel
theorem dX8_farthest_105 : decode cX8_farthest 105 = .ok (.getfield 175, 3) := by decide +kernel
theorem dX8_farthest_108 : decode cX8_farthest 108 = .ok (.iload_n 1, 1) := by decide +kernel
theorem dX8_farthest_109 : decode cX8_farthest 109 = .ok (.laload, 1) := by decide +kernel
theorem dX8_farthest_110 : decode cX8_farthest 110 = .ok (.aload_n 0, 1) := by decide +kernel
theorem dX8_farthest_111 : decode cX8_farthest 111 = .ok (.getfield 29, 3) := by decide +kernel
theorem dX8_farthest_114 : decode cX8_farthest 114 = .ok (.getfield 178, 3) := by decide +kernel
theorem dX8_farthest_117 : decode cX8_farthest 117 = .ok (.lload 4, 2) := by decide +kernel
theorem dX8_farthest_119 : decode cX8_farthest 119 = .ok (.lload 6, 2) := by decide +kernel
theorem dX8_farthest_121 : decode cX8_farthest 121 = .ok (.invokestatic 223, 3) := by decide +kernel
theorem dX8_farthest_124 : decode cX8_farthest 124 = .ok (.ifCond .le 26, 3) := by decide +kernel
theorem dX8_farthest_127 : decode cX8_farthest 127 = .ok (.iload 8, 2) := by decide +kernel
theorem dX8_farthest_129 : decode cX8_farthest 129 = .ok (.istore_n 3, 1) := by decide +kernel
theorem dX8_farthest_130 : decode cX8_farthest 130 = .ok (.aload_n 0, 1) := by decide +kernel
theorem dX8_farthest_131 : decode cX8_farthest 131 = .ok (.getfield 29, 3) := by decide +kernel
theorem dX8_farthest_134 : decode cX8_farthest 134 = .ok (.getfield 175, 3) := by decide +kernel
theorem dX8_farthest_137 : decode cX8_farthest 137 = .ok (.iload_n 1, 1) := by decide +kernel
theorem dX8_farthest_138 : decode cX8_farthest 138 = .ok (.laload, 1) := by decide +kernel
theorem dX8_farthest_139 : decode cX8_farthest 139 = .ok (.lstore 4, 2) := by decide +kernel
theorem dX8_farthest_141 : decode cX8_farthest 141 = .ok (.aload_n 0, 1) := by decide +kernel
theorem dX8_farthest_142 : decode cX8_farthest 142 = .ok (.getfield 29, 3) := by decide +kernel
theorem dX8_farthest_145 : decode cX8_farthest 145 = .ok (.getfield 178, 3) := by decide +kernel
theorem dX8_farthest_148 : decode cX8_farthest 148 = .ok (.lstore 6, 2) := by decide +kernel
theorem dX8_farthest_150 : decode cX8_farthest 150 = .ok (.iinc 8 1, 3) := by decide +kernel
theorem dX8_farthest_153 : decode cX8_farthest 153 = .ok (.goto (-106), 3) := by decide +kernel
theorem dX8_farthest_156 : decode cX8_farthest 156 = .ok (.iload_n 3, 1) := by decide +kernel
theorem dX8_farthest_157 : decode cX8_farthest 157 = .ok (.ireturn, 1) := by decide +kernel
theorem dX8_middle_0 : decode cX8_middle 0 = .ok (.aload_n 0, 1) := by decide +kernel
theorem dX8_middle_1 : decode cX8_middle 1 = .ok (.getfield 10, 3) := by decide +kernel
theorem dX8_middle_4 : decode cX8_middle 4 = .ok (.iconst 1, 1) := by decide +kernel
theorem dX8_middle_5 : decode cX8_middle 5 = .ok (.aload_n 0, 1) := by decide +kernel
theorem dX8_middle_6 : decode cX8_middle 6 = .ok (.getfield 10, 3) := by decide +kernel
theorem dX8_middle_9 : decode cX8_middle 9 = .ok (.invokevirtual 157, 3) := by decide +kernel
theorem dX8_middle_12 : decode cX8_middle 12 = .ok (.invokevirtual 161, 3) := by decide +kernel
theorem dX8_middle_15 : decode cX8_middle 15 = .ok (.aload_n 0, 1) := by decide +kernel
theorem dX8_middle_16 : decode cX8_middle 16 = .ok (.getfield 10, 3) := by decide +kernel
theorem dX8_middle_19 : decode cX8_middle 19 = .ok (.invokevirtual 230, 3) := by decide +kernel
theorem dX8_middle_22 : decode cX8_middle 22 = .ok (.if_icmp .eq 6, 3) := by decide +kernel
theorem dX8_middle_25 : decode cX8_middle 25 = .ok (.bipush (-9), 2) := by decide +kernel
theorem dX8_middle_27 : decode cX8_middle 27 = .ok (.ireturn, 1) := by decide +kernel
theorem dX8_middle_28 : decode cX8_middle 28 = .ok (.iconst 0, 1) := by decide +kernel
theorem dX8_middle_29 : decode cX8_middle 29 = .ok (.istore_n 1, 1) := by decide +kernel
theorem dX8_middle_30 : decode cX8_middle 30 = .ok (.iload_n 1, 1) := by decide +kernel
theorem dX8_middle_31 : decode cX8_middle 31 = .ok (.aload_n 0, 1) := by decide +kernel
theorem dX8_middle_32 : decode cX8_middle 32 = .ok (.getfield 10, 3) := by decide +kernel
theorem dX8_middle_35 : decode cX8_middle 35 = .ok (.getfield 216, 3) := by decide +kernel
theorem dX8_middle_38 : decode cX8_middle 38 = .ok (.if_icmp .ge 16, 3) := by decide +kernel
theorem dX8_middle_41 : decode cX8_middle 41 = .ok (.aload_n 0, 1) := by decide +kernel
theorem dX8_middle_42 : decode cX8_middle 42 = .ok (.getfield 33, 3) := by decide +kernel
theorem dX8_middle_45 : decode cX8_middle 45 = .ok (.iload_n 1, 1) := by decide +kernel
theorem dX8_middle_46 : decode cX8_middle 46 = .ok (.lconst 0, 1) := by decide +kernel
theorem dX8_middle_47 : decode cX8_middle 47 = .ok (.lastore, 1) := by decide +kernel
theorem dX8_middle_48 : decode cX8_middle 48 = .ok (.iinc 1 1, 3) := by decide +kernel
theorem dX8_middle_51 : decode cX8_middle 51 = .ok (.goto (-21), 3) := by decide +kernel
theorem dX8_middle_54 : decode cX8_middle 54 = .ok (.iconst 0, 1) := by decide +kernel
theorem dX8_middle_55 : decode cX8_middle 55 = .ok (.istore_n 1, 1) := by decide +kernel
theorem dX8_middle_56 : decode cX8_middle 56 = .ok (.iload_n 1, 1) := by decide +kernel
theorem dX8_middle_57 : decode cX8_middle 57 = .ok (.aload_n 0, 1) := by decide +kernel
theorem dX8_middle_58 : decode cX8_middle 58 = .ok (.getfield 10, 3) := by decide +kernel
theorem dX8_middle_61 : decode cX8_middle 61 = .ok (.getfield 216, 3) := by decide +kernel
theorem dX8_middle_64 : decode cX8_middle 64 = .ok (.if_icmp .ge 65, 3) := by decide +kernel
theorem dX8_middle_67 : decode cX8_middle 67 = .ok (.aload_n 0, 1) := by decide +kernel
theorem dX8_middle_68 : decode cX8_middle 68 = .ok (.getfield 29, 3) := by decide +kernel
theorem dX8_middle_71 : decode cX8_middle 71 = .ok (.aload_n 0, 1) := by decide +kernel
theorem dX8_middle_72 : decode cX8_middle 72 = .ok (.getfield 10, 3) := by decide +kernel
theorem dX8_middle_75 : decode cX8_middle 75 = .ok (.aload_n 0, 1) := by decide +kernel
theorem dX8_middle_76 : decode cX8_middle 76 = .ok (.getfield 10, 3) := by decide +kernel
theorem dX8_middle_79 : decode cX8_middle 79 = .ok (.invokevirtual 157, 3) := by decide +kernel
theorem dX8_middle_82 : decode cX8_middle 82 = .ok (.iload_n 1, 1) := by decide +kernel
theorem dX8_middle_83 : decode cX8_middle 83 = .ok (.invokevirtual 171, 3) := by decide +kernel
theorem dX8_middle_86 : decode cX8_middle 86 = .ok (.iconst 0, 1) := by decide +kernel
theorem dX8_middle_87 : decode cX8_middle 87 = .ok (.istore_n 2, 1) := by decide +kernel
theorem dX8_middle_88 : decode cX8_middle 88 = .ok (.iload_n 2, 1) := by decide +kernel
theorem dX8_middle_89 : decode cX8_middle 89 = .ok (.aload_n 0, 1) := by decide +kernel
theorem dX8_middle_90 : decode cX8_middle 90 = .ok (.getfield 10, 3) := by decide +kernel
theorem dX8_middle_93 : decode cX8_middle 93 = .ok (.getfield 216, 3) := by decide +kernel
theorem dX8_middle_96 : decode cX8_middle 96 = .ok (.if_icmp .ge 27, 3) := by decide +kernel
theorem dX8_middle_99 : decode cX8_middle 99 = .ok (.aload_n 0, 1) := by decide +kernel
theorem dX8_middle_100 : decode cX8_middle 100 = .ok (.getfield 33, 3) := by decide +kernel
theorem dX8_middle_103 : decode cX8_middle 103 = .ok (.iload_n 2, 1) := by decide +kernel
theorem dX8_middle_104 : decode cX8_middle 104 = .ok (.dup2, 1) := by decide +kernel
theorem dX8_middle_105 : decode cX8_middle 105 = .ok (.laload, 1) := by decide +kernel
theorem dX8_middle_106 : decode cX8_middle 106 = .ok (.aload_n 0, 1) := by decide +kernel
theorem dX8_middle_107 : decode cX8_middle 107 = .ok (.getfield 29, 3) := by decide +kernel
theorem dX8_middle_110 : decode cX8_middle 110 = .ok (.getfield 175, 3) := by decide +kernel
theorem dX8_middle_113 : decode cX8_middle 113 = .ok (.iload_n 2, 1) := by decide +kernel
theorem dX8_middle_114 : decode cX8_middle 114 = .ok (.laload, 1) := by decide +kernel
theorem dX8_middle_115 : decode cX8_middle 115 = .ok (.ladd, 1) := by decide +kernel
theorem dX8_middle_116 : decode cX8_middle 116 = .ok (.lastore, 1) := by decide +kernel
theorem dX8_middle_117 : decode cX8_middle 117 = .ok (.iinc 2 1, 3) := by decide +kernel
theorem dX8_middle_120 : decode cX8_middle 120 = .ok (.goto (-32), 3) := by decide +kernel
theorem dX8_middle_123 : decode cX8_middle 123 = .ok (.iinc 1 1, 3) := by decide +kernel
theorem dX8_middle_126 : decode cX8_middle 126 = .ok (.goto (-70), 3) := by decide +kernel
theorem dX8_middle_129 : decode cX8_middle 129 = .ok (.iconst 0, 1) := by decide +kernel
theorem dX8_middle_130 : decode cX8_middle 130 = .ok (.istore_n 1, 1) := by decide +kernel
theorem dX8_middle_131 : decode cX8_middle 131 = .ok (.iconst 1, 1) := by decide +kernel
theorem dX8_middle_132 : decode cX8_middle 132 = .ok (.istore_n 2, 1) := by decide +kernel
theorem dX8_middle_133 : decode cX8_middle 133 = .ok (.iload_n 2, 1) := by decide +kernel
theorem dX8_middle_134 : decode cX8_middle 134 = .ok (.aload_n 0, 1) := by decide +kernel
theorem dX8_middle_135 : decode cX8_middle 135 = .ok (.getfield 10, 3) := by decide +kernel
theorem dX8_middle_138 : decode cX8_middle 138 = .ok (.getfield 216, 3) := by decide +kernel
theorem dX8_middle_141 : decode cX8_middle 141 = .ok (.if_icmp .ge 27, 3) := by decide +kernel
theorem dX8_middle_144 : decode cX8_middle 144 = .ok (.aload_n 0, 1) := by decide +kernel
theorem dX8_middle_145 : decode cX8_middle 145 = .ok (.getfield 33, 3) := by decide +kernel
theorem dX8_middle_148 : decode cX8_middle 148 = .ok (.iload_n 2, 1) := by decide +kernel
theorem dX8_middle_149 : decode cX8_middle 149 = .ok (.laload, 1) := by decide +kernel
theorem dX8_middle_150 : decode cX8_middle 150 = .ok (.aload_n 0, 1) := by decide +kernel
theorem dX8_middle_151 : decode cX8_middle 151 = .ok (.getfield 33, 3) := by decide +kernel
theorem dX8_middle_154 : decode cX8_middle 154 = .ok (.iload_n 1, 1) := by decide +kernel
theorem dX8_middle_155 : decode cX8_middle 155 = .ok (.laload, 1) := by decide +kernel
theorem dX8_middle_156 : decode cX8_middle 156 = .ok (.lcmp, 1) := by decide +kernel
theorem dX8_middle_157 : decode cX8_middle 157 = .ok (.ifCond .ge 5, 3) := by decide +kernel
theorem dX8_middle_160 : decode cX8_middle 160 = .ok (.iload_n 2, 1) := by decide +kernel
theorem dX8_middle_161 : decode cX8_middle 161 = .ok (.istore_n 1, 1) := by decide +kernel
theorem dX8_middle_162 : decode cX8_middle 162 = .ok (.iinc 2 1, 3) := by decide +kernel
theorem dX8_middle_165 : decode cX8_middle 165 = .ok (.goto (-32), 3) := by decide +kernel
theorem dX8_middle_168 : decode cX8_middle 168 = .ok (.iload_n 1, 1) := by decide +kernel
theorem dX8_middle_169 : decode cX8_middle 169 = .ok (.ireturn, 1) := by decide +kernel
theorem dX8_sure_0 : decode cX8_sure 0 = .ok (.aload_n 0, 1) := by decide +kernel
theorem dX8_sure_1 : decode cX8_sure 1 = .ok (.iload_n 1, 1) := by decide +kernel
theorem dX8_sure_2 : decode cX8_sure 2 = .ok (.iload_n 2, 1) := by decide +kernel
theorem dX8_sure_3 : decode cX8_sure 3 = .ok (.iload_n 3, 1) := by decide +kernel
theorem dX8_sure_4 : decode cX8_sure 4 = .ok (.iconst 0, 1) := by decide +kernel
theorem dX8_sure_5 : decode cX8_sure 5 = .ok (.iload 4, 2) := by decide +kernel
theorem dX8_sure_7 : decode cX8_sure 7 = .ok (.invokevirtual 233, 3) := by decide +kernel
theorem dX8_sure_10 : decode cX8_sure 10 = .ok (.istore 5, 2) := by decide +kernel
theorem dX8_sure_12 : decode cX8_sure 12 = .ok (.iload 5, 2) := by decide +kernel
theorem dX8_sure_14 : decode cX8_sure 14 = .ok (.ifCond .eq 12, 3) := by decide +kernel
theorem dX8_sure_17 : decode cX8_sure 17 = .ok (.aload_n 0, 1) := by decide +kernel
theorem dX8_sure_18 : decode cX8_sure 18 = .ok (.iload 5, 2) := by decide +kernel
theorem dX8_sure_20 : decode cX8_sure 20 = .ok (.invokevirtual 167, 3) := by decide +kernel
theorem dX8_sure_23 : decode cX8_sure 23 = .ok (.goto 13, 3) := by decide +kernel
theorem dX8_sure_26 : decode cX8_sure 26 = .ok (.aload_n 0, 1) := by decide +kernel
theorem dX8_sure_27 : decode cX8_sure 27 = .ok (.iload_n 1, 1) := by decide +kernel
theorem dX8_sure_28 : decode cX8_sure 28 = .ok (.iload_n 2, 1) := by decide +kernel
theorem dX8_sure_29 : decode cX8_sure 29 = .ok (.iload_n 3, 1) := by decide +kernel
theorem dX8_sure_30 : decode cX8_sure 30 = .ok (.iconst (-1), 1) := by decide +kernel
theorem dX8_sure_31 : decode cX8_sure 31 = .ok (.iload 4, 2) := by decide +kernel
theorem dX8_sure_33 : decode cX8_sure 33 = .ok (.invokevirtual 237, 3) := by decide +kernel
theorem dX8_sure_36 : decode cX8_sure 36 = .ok (.lreturn, 1) := by decide +kernel
theorem dX8_fast_0 : decode cX8_fast 0 = .ok (.aload_n 0, 1) := by decide +kernel
theorem dX8_fast_1 : decode cX8_fast 1 = .ok (.iload_n 1, 1) := by decide +kernel
theorem dX8_fast_2 : decode cX8_fast 2 = .ok (.iload_n 2, 1) := by decide +kernel
theorem dX8_fast_3 : decode cX8_fast 3 = .ok (.iload_n 3, 1) := by decide +kernel
theorem dX8_fast_4 : decode cX8_fast 4 = .ok (.iload 4, 2) := by decide +kernel
theorem dX8_fast_6 : decode cX8_fast 6 = .ok (.iload 5, 2) := by decide +kernel
theorem dX8_fast_8 : decode cX8_fast 8 = .ok (.invokevirtual 233, 3) := by decide +kernel
theorem dX8_fast_11 : decode cX8_fast 11 = .ok (.istore 6, 2) := by decide +kernel
theorem dX8_fast_13 : decode cX8_fast 13 = .ok (.iload 6, 2) := by decide +kernel
theorem dX8_fast_15 : decode cX8_fast 15 = .ok (.ifCond .eq 12, 3) := by decide +kernel
theorem dX8_fast_18 : decode cX8_fast 18 = .ok (.aload_n 0, 1) := by decide +kernel
theorem dX8_fast_19 : decode cX8_fast 19 = .ok (.iload 6, 2) := by decide +kernel
theorem dX8_fast_21 : decode cX8_fast 21 = .ok (.invokevirtual 167, 3) := by decide +kernel
theorem dX8_fast_24 : decode cX8_fast 24 = .ok (.goto 14, 3) := by decide +kernel
theorem dX8_fast_27 : decode cX8_fast 27 = .ok (.aload_n 0, 1) := by decide +kernel
theorem dX8_fast_28 : decode cX8_fast 28 = .ok (.iload_n 1, 1) := by decide +kernel
theorem dX8_fast_29 : decode cX8_fast 29 = .ok (.iload_n 2, 1) := by decide +kernel
theorem dX8_fast_30 : decode cX8_fast 30 = .ok (.iload_n 3, 1) := by decide +kernel
theorem dX8_fast_31 : decode cX8_fast 31 = .ok (.iload 4, 2) := by decide +kernel
theorem dX8_fast_33 : decode cX8_fast 33 = .ok (.iload 5, 2) := by decide +kernel
theorem dX8_fast_35 : decode cX8_fast 35 = .ok (.invokevirtual 237, 3) := by decide +kernel
theorem dX8_fast_38 : decode cX8_fast 38 = .ok (.lreturn, 1) := by decide +kernel
theorem dX8_bySteps_0 : decode cX8_bySteps 0 = .ok (.aload_n 0, 1) := by decide +kernel
theorem dX8_bySteps_1 : decode cX8_bySteps 1 = .ok (.getfield 10, 3) := by decide +kernel
theorem dX8_bySteps_4 : decode cX8_bySteps 4 = .ok (.iload_n 1, 1) := by decide +kernel
theorem dX8_bySteps_5 : decode cX8_bySteps 5 = .ok (.invokevirtual 154, 3) := by decide +kernel
theorem dX8_bySteps_8 : decode cX8_bySteps 8 = .ok (.ifCond .eq 14, 3) := by decide +kernel
theorem dX8_bySteps_11 : decode cX8_bySteps 11 = .ok (.aload_n 0, 1) := by decide +kernel
theorem dX8_bySteps_12 : decode cX8_bySteps 12 = .ok (.getfield 10, 3) := by decide +kernel
theorem dX8_bySteps_15 : decode cX8_bySteps 15 = .ok (.iload_n 2, 1) := by decide +kernel
theorem dX8_bySteps_16 : decode cX8_bySteps 16 = .ok (.invokevirtual 154, 3) := by decide +kernel
theorem dX8_bySteps_19 : decode cX8_bySteps 19 = .ok (.ifCond .ne 7, 3) := by decide +kernel
theorem dX8_bySteps_22 : decode cX8_bySteps 22 = .ok (.iconst (-1), 1) := by decide +kernel
theorem dX8_bySteps_23 : decode cX8_bySteps 23 = .ok (.goto 10, 3) := by decide +kernel
theorem dX8_bySteps_26 : decode cX8_bySteps 26 = .ok (.iload_n 3, 1) := by decide +kernel
theorem dX8_bySteps_27 : decode cX8_bySteps 27 = .ok (.iconst 0, 1) := by decide +kernel
theorem dX8_bySteps_28 : decode cX8_bySteps 28 = .ok (.bipush 30, 2) := by decide +kernel
theorem dX8_bySteps_30 : decode cX8_bySteps 30 = .ok (.invokestatic 241, 3) := by decide +kernel
theorem dX8_bySteps_33 : decode cX8_bySteps 33 = .ok (.istore 5, 2) := by decide +kernel
theorem dX8_bySteps_35 : decode cX8_bySteps 35 = .ok (.iload 5, 2) := by decide +kernel
theorem dX8_bySteps_37 : decode cX8_bySteps 37 = .ok (.ifCond .ne 18, 3) := by decide +kernel
theorem dX8_bySteps_40 : decode cX8_bySteps 40 = .ok (.iload 4, 2) := by decide +kernel
theorem dX8_bySteps_42 : decode cX8_bySteps 42 = .ok (.ifCond .eq 13, 3) := by decide +kernel
theorem dX8_bySteps_45 : decode cX8_bySteps 45 = .ok (.iload 4, 2) := by decide +kernel
theorem dX8_bySteps_47 : decode cX8_bySteps 47 = .ok (.iconst 1, 1) := by decide +kernel
theorem dX8_bySteps_48 : decode cX8_bySteps 48 = .ok (.if_icmp .eq 7, 3) := by decide +kernel
theorem dX8_bySteps_51 : decode cX8_bySteps 51 = .ok (.bipush (-2), 2) := by decide +kernel
theorem dX8_bySteps_53 : decode cX8_bySteps 53 = .ok (.istore 5, 2) := by decide +kernel
theorem dX8_bySteps_55 : decode cX8_bySteps 55 = .ok (.iload 5, 2) := by decide +kernel
theorem dX8_bySteps_57 : decode cX8_bySteps 57 = .ok (.ifCond .eq 10, 3) := by decide +kernel
theorem dX8_bySteps_60 : decode cX8_bySteps 60 = .ok (.aload_n 0, 1) := by decide +kernel
theorem dX8_bySteps_61 : decode cX8_bySteps 61 = .ok (.iload 5, 2) := by decide +kernel
theorem dX8_bySteps_63 : decode cX8_bySteps 63 = .ok (.invokevirtual 167, 3) := by decide +kernel
theorem dX8_bySteps_66 : decode cX8_bySteps 66 = .ok (.lreturn, 1) := by decide +kernel
theorem dX8_bySteps_67 : decode cX8_bySteps 67 = .ok (.aload_n 0, 1) := by decide +kernel
theorem dX8_bySteps_68 : decode cX8_bySteps 68 = .ok (.getfield 47, 3) := by decide +kernel
theorem dX8_bySteps_71 : decode cX8_bySteps 71 = .ok (.aload_n 0, 1) := by decide +kernel
theorem dX8_bySteps_72 : decode cX8_bySteps 72 = .ok (.getfield 10, 3) := by decide +kernel
theorem dX8_bySteps_75 : decode cX8_bySteps 75 = .ok (.iload_n 1, 1) := by decide +kernel
theorem dX8_bySteps_76 : decode cX8_bySteps 76 = .ok (.iload_n 3, 1) := by decide +kernel
theorem dX8_bySteps_77 : decode cX8_bySteps 77 = .ok (.invokevirtual 244, 3) := by decide +kernel
theorem dX8_bySteps_80 : decode cX8_bySteps 80 = .ok (.aload_n 0, 1) := by decide +kernel
theorem dX8_bySteps_81 : decode cX8_bySteps 81 = .ok (.getfield 47, 3) := by decide +kernel
theorem dX8_bySteps_84 : decode cX8_bySteps 84 = .ok (.getfield 247, 3) := by decide +kernel
theorem dX8_bySteps_87 : decode cX8_bySteps 87 = .ok (.iload_n 2, 1) := by decide +kernel
theorem dX8_bySteps_88 : decode cX8_bySteps 88 = .ok (.daload, 1) := by decide +kernel
theorem dX8_bySteps_89 : decode cX8_bySteps 89 = .ok (.dstore 6, 2) := by decide +kernel
theorem dX8_bySteps_91 : decode cX8_bySteps 91 = .ok (.iload 4, 2) := by decide +kernel
theorem dX8_bySteps_93 : decode cX8_bySteps 93 = .ok (.ifCond .ne 11, 3) := by decide +kernel
theorem dX8_bySteps_96 : decode cX8_bySteps 96 = .ok (.dload 6, 2) := by decide +kernel
theorem dX8_bySteps_98 : decode cX8_bySteps 98 = .ok (.invokestatic 251, 3) := by decide +kernel
theorem dX8_bySteps_101 : decode cX8_bySteps 101 = .ok (.goto 11, 3) := by decide +kernel
theorem dX8_bySteps_104 : decode cX8_bySteps 104 = .ok (.dload 6, 2) := by decide +kernel
theorem dX8_bySteps_106 : decode cX8_bySteps 106 = .ok (.ldc2_w 255, 3) := by decide +kernel
theorem dX8_bySteps_109 : decode cX8_bySteps 109 = .ok (.dmul, 1) := by decide +kernel
theorem dX8_bySteps_110 : decode cX8_bySteps 110 = .ok (.d2i, 1) := by decide +kernel
theorem dX8_bySteps_111 : decode cX8_bySteps 111 = .ok (.i2l, 1) := by decide +kernel
theorem dX8_bySteps_112 : decode cX8_bySteps 112 = .ok (.lreturn, 1) := by decide +kernel
theorem dX8_lots_0 : decode cX8_lots 0 = .ok (.aload_n 0, 1) := by decide +kernel
theorem dX8_lots_1 : decode cX8_lots 1 = .ok (.iload_n 1, 1) := by decide +kernel
theorem dX8_lots_2 : decode cX8_lots 2 = .ok (.iload_n 2, 1) := by decide +kernel
theorem dX8_lots_3 : decode cX8_lots 3 = .ok (.invokevirtual 210, 3) := by decide +kernel
theorem dX8_lots_6 : decode cX8_lots 6 = .ok (.ifCond .ne 7, 3) := by decide +kernel
theorem dX8_lots_9 : decode cX8_lots 9 = .ok (.iconst (-1), 1) := by decide +kernel
theorem dX8_lots_10 : decode cX8_lots 10 = .ok (.goto 10, 3) := by decide +kernel
theorem dX8_lots_13 : decode cX8_lots 13 = .ok (.iload_n 3, 1) := by decide +kernel
theorem dX8_lots_14 : decode cX8_lots 14 = .ok (.iconst 1, 1) := by decide +kernel
theorem dX8_lots_15 : decode cX8_lots 15 = .ok (.bipush 30, 2) := by decide +kernel
theorem dX8_lots_17 : decode cX8_lots 17 = .ok (.invokestatic 241, 3) := by decide +kernel
theorem dX8_lots_20 : decode cX8_lots 20 = .ok (.istore 6, 2) := by decide +kernel
theorem dX8_lots_22 : decode cX8_lots 22 = .ok (.iload 6, 2) := by decide +kernel
theorem dX8_lots_24 : decode cX8_lots 24 = .ok (.ifCond .ne 18, 3) := by decide +kernel
theorem dX8_lots_27 : decode cX8_lots 27 = .ok (.iload 5, 2) := by decide +kernel
theorem dX8_lots_29 : decode cX8_lots 29 = .ok (.ifCond .eq 13, 3) := by decide +kernel
theorem dX8_lots_32 : decode cX8_lots 32 = .ok (.iload 5, 2) := by decide +kernel
theorem dX8_lots_34 : decode cX8_lots 34 = .ok (.iconst 1, 1) := by decide +kernel
theorem dX8_lots_35 : decode cX8_lots 35 = .ok (.if_icmp .eq 7, 3) := by decide +kernel
theorem dX8_lots_38 : decode cX8_lots 38 = .ok (.bipush (-2), 2) := by decide +kernel
theorem dX8_lots_40 : decode cX8_lots 40 = .ok (.istore 6, 2) := by decide +kernel
theorem dX8_lots_42 : decode cX8_lots 42 = .ok (.iload 6, 2) := by decide +kernel
theorem dX8_lots_44 : decode cX8_lots 44 = .ok (.ifCond .eq 10, 3) := by decide +kernel
theorem dX8_lots_47 : decode cX8_lots 47 = .ok (.aload_n 0, 1) := by decide +kernel
theorem dX8_lots_48 : decode cX8_lots 48 = .ok (.iload 6, 2) := by decide +kernel
theorem dX8_lots_50 : decode cX8_lots 50 = .ok (.invokevirtual 94, 3) := by decide +kernel
theorem dX8_lots_53 : decode cX8_lots 53 = .ok (.ireturn, 1) := by decide +kernel
theorem dX8_lots_54 : decode cX8_lots 54 = .ok (.aload_n 0, 1) := by decide +kernel
theorem dX8_lots_55 : decode cX8_lots 55 = .ok (.getfield 54, 3) := by decide +kernel
theorem dX8_lots_58 : decode cX8_lots 58 = .ok (.aload_n 0, 1) := by decide +kernel
theorem dX8_lots_59 : decode cX8_lots 59 = .ok (.getfield 10, 3) := by decide +kernel
theorem dX8_lots_62 : decode cX8_lots 62 = .ok (.iload 4, 2) := by decide +kernel
theorem dX8_lots_64 : decode cX8_lots 64 = .ok (.invokevirtual 257, 3) := by decide +kernel
theorem dX8_lots_67 : decode cX8_lots 67 = .ok (.iconst 0, 1) := by decide +kernel
theorem dX8_lots_68 : decode cX8_lots 68 = .ok (.istore 7, 2) := by decide +kernel
theorem dX8_lots_70 : decode cX8_lots 70 = .ok (.iconst 0, 1) := by decide +kernel
theorem dX8_lots_71 : decode cX8_lots 71 = .ok (.istore 8, 2) := by decide +kernel
theorem dX8_lots_73 : decode cX8_lots 73 = .ok (.iconst 0, 1) := by decide +kernel
theorem dX8_lots_74 : decode cX8_lots 74 = .ok (.istore 9, 2) := by decide +kernel
theorem dX8_lots_76 : decode cX8_lots 76 = .ok (.iload 9, 2) := by decide +kernel
theorem dX8_lots_78 : decode cX8_lots 78 = .ok (.iload_n 3, 1) := by decide +kernel
theorem dX8_lots_79 : decode cX8_lots 79 = .ok (.if_icmp .ge 39, 3) := by decide +kernel
theorem dX8_lots_82 : decode cX8_lots 82 = .ok (.aload_n 0, 1) := by decide +kernel
theorem dX8_lots_83 : decode cX8_lots 83 = .ok (.getfield 54, 3) := by decide +kernel
theorem dX8_lots_86 : decode cX8_lots 86 = .ok (.aload_n 0, 1) := by decide +kernel
theorem dX8_lots_87 : decode cX8_lots 87 = .ok (.getfield 10, 3) := by decide +kernel
theorem dX8_lots_90 : decode cX8_lots 90 = .ok (.iload_n 1, 1) := by decide +kernel
theorem dX8_lots_91 : decode cX8_lots 91 = .ok (.iload_n 2, 1) := by decide +kernel
theorem dX8_lots_92 : decode cX8_lots 92 = .ok (.invokevirtual 261, 3) := by decide +kernel
theorem dX8_lots_95 : decode cX8_lots 95 = .ok (.istore 10, 2) := by decide +kernel
theorem dX8_lots_97 : decode cX8_lots 97 = .ok (.iload 10, 2) := by decide +kernel
theorem dX8_lots_99 : decode cX8_lots 99 = .ok (.ifCond .lt 13, 3) := by decide +kernel
theorem dX8_lots_102 : decode cX8_lots 102 = .ok (.iinc 7 1, 3) := by decide +kernel
theorem dX8_lots_105 : decode cX8_lots 105 = .ok (.iload 8, 2) := by decide +kernel
theorem dX8_lots_107 : decode cX8_lots 107 = .ok (.iload 10, 2) := by decide +kernel
theorem dX8_lots_109 : decode cX8_lots 109 = .ok (.iadd, 1) := by decide +kernel
theorem dX8_lots_110 : decode cX8_lots 110 = .ok (.istore 8, 2) := by decide +kernel
theorem dX8_lots_112 : decode cX8_lots 112 = .ok (.iinc 9 1, 3) := by decide +kernel
theorem dX8_lots_115 : decode cX8_lots 115 = .ok (.goto (-39), 3) := by decide +kernel
theorem dX8_lots_118 : decode cX8_lots 118 = .ok (.iload 5, 2) := by decide +kernel
theorem dX8_lots_120 : decode cX8_lots 120 = .ok (.ifCond .ne 8, 3) := by decide +kernel
theorem dX8_lots_123 : decode cX8_lots 123 = .ok (.iload 7, 2) := by decide +kernel
theorem dX8_lots_125 : decode cX8_lots 125 = .ok (.goto 5, 3) := by decide +kernel
theorem dX8_lots_128 : decode cX8_lots 128 = .ok (.iload 8, 2) := by decide +kernel
theorem dX8_lots_130 : decode cX8_lots 130 = .ok (.ireturn, 1) := by decide +kernel
theorem dX8_says_0 : decode cX8_says 0 = .ok (.aload_n 0, 1) := by decide +kernel
theorem dX8_says_1 : decode cX8_says 1 = .ok (.getfield 10, 3) := by decide +kernel
theorem dX8_says_4 : decode cX8_says 4 = .ok (.iload_n 1, 1) := by decide +kernel
theorem dX8_says_5 : decode cX8_says 5 = .ok (.invokevirtual 154, 3) := by decide +kernel
theorem dX8_says_8 : decode cX8_says 8 = .ok (.ifCond .eq 14, 3) := by decide +kernel
theorem dX8_says_11 : decode cX8_says 11 = .ok (.aload_n 0, 1) := by decide +kernel
theorem dX8_says_12 : decode cX8_says 12 = .ok (.getfield 10, 3) := by decide +kernel
theorem dX8_says_15 : decode cX8_says 15 = .ok (.iload_n 2, 1) := by decide +kernel
theorem dX8_says_16 : decode cX8_says 16 = .ok (.invokevirtual 154, 3) := by decide +kernel
theorem dX8_says_19 : decode cX8_says 19 = .ok (.ifCond .ne 9, 3) := by decide +kernel
theorem dX8_says_22 : decode cX8_says 22 = .ok (.aload_n 0, 1) := by decide +kernel
theorem dX8_says_23 : decode cX8_says 23 = .ok (.iconst (-1), 1) := by decide +kernel
theorem dX8_says_24 : decode cX8_says 24 = .ok (.invokevirtual 94, 3) := by decide +kernel
theorem dX8_says_27 : decode cX8_says 27 = .ok (.ireturn, 1) := by decide +kernel
theorem dX8_says_28 : decode cX8_says 28 = .ok (.aload_n 0, 1) := by decide +kernel
theorem dX8_says_29 : decode cX8_says 29 = .ok (.iload_n 1, 1) := by decide +kernel
theorem dX8_says_30 : decode cX8_says 30 = .ok (.iload_n 2, 1) := by decide +kernel
theorem dX8_says_31 : decode cX8_says 31 = .ok (.invokevirtual 264, 3) := by decide +kernel
theorem dX8_says_34 : decode cX8_says 34 = .ok (.iload_n 3, 1) := by decide +kernel
theorem dX8_says_35 : decode cX8_says 35 = .ok (.iconst (-1), 1) := by decide +kernel
theorem dX8_says_36 : decode cX8_says 36 = .ok (.if_icmp .ne 11, 3) := by decide +kernel
theorem dX8_says_39 : decode cX8_says 39 = .ok (.aload_n 0, 1) := by decide +kernel
theorem dX8_says_40 : decode cX8_says 40 = .ok (.getfield 61, 3) := by decide +kernel
theorem dX8_says_43 : decode cX8_says 43 = .ok (.getfield 268, 3) := by decide +kernel
theorem dX8_says_46 : decode cX8_says 46 = .ok (.ireturn, 1) := by decide +kernel
theorem dX8_says_47 : decode cX8_says 47 = .ok (.iload_n 3, 1) := by decide +kernel
theorem dX8_says_48 : decode cX8_says 48 = .ok (.ifCond .lt 14, 3) := by decide +kernel
theorem dX8_says_51 : decode cX8_says 51 = .ok (.iload_n 3, 1) := by decide +kernel
theorem dX8_says_52 : decode cX8_says 52 = .ok (.aload_n 0, 1) := by decide +kernel
theorem dX8_says_53 : decode cX8_says 53 = .ok (.getfield 61, 3) := by decide +kernel
theorem dX8_says_56 : decode cX8_says 56 = .ok (.getfield 268, 3) := by decide +kernel
theorem dX8_says_59 : decode cX8_says 59 = .ok (.if_icmp .lt 11, 3) := by decide +kernel
theorem dX8_says_62 : decode cX8_says 62 = .ok (.aload_n 0, 1) := by decide +kernel
theorem dX8_says_63 : decode cX8_says 63 = .ok (.iconst (-1), 1) := by decide +kernel
theorem dX8_says_64 : decode cX8_says 64 = .ok (.invokevirtual 94, 3) := by decide +kernel
theorem dX8_says_67 : decode cX8_says 67 = .ok (.goto 12, 3) := by decide +kernel
theorem dX8_says_70 : decode cX8_says 70 = .ok (.aload_n 0, 1) := by decide +kernel
theorem dX8_says_71 : decode cX8_says 71 = .ok (.getfield 61, 3) := by decide +kernel
theorem dX8_says_74 : decode cX8_says 74 = .ok (.getfield 271, 3) := by decide +kernel
theorem dX8_says_77 : decode cX8_says 77 = .ok (.iload_n 3, 1) := by decide +kernel
theorem dX8_says_78 : decode cX8_says 78 = .ok (.iaload, 1) := by decide +kernel
theorem dX8_says_79 : decode cX8_says 79 = .ok (.ireturn, 1) := by decide +kernel
theorem dX8_whatIs_0 : decode cX8_whatIs 0 = .ok (.aload_n 0, 1) := by decide +kernel
theorem dX8_whatIs_1 : decode cX8_whatIs 1 = .ok (.getfield 10, 3) := by decide +kernel
theorem dX8_whatIs_4 : decode cX8_whatIs 4 = .ok (.iload_n 1, 1) := by decide +kernel
theorem dX8_whatIs_5 : decode cX8_whatIs 5 = .ok (.invokevirtual 126, 3) := by decide +kernel
theorem dX8_whatIs_8 : decode cX8_whatIs 8 = .ok (.ifCond .ne 9, 3) := by decide +kernel
theorem dX8_whatIs_11 : decode cX8_whatIs 11 = .ok (.aload_n 0, 1) := by decide +kernel
theorem dX8_whatIs_12 : decode cX8_whatIs 12 = .ok (.iconst (-1), 1) := by decide +kernel
theorem dX8_whatIs_13 : decode cX8_whatIs 13 = .ok (.invokevirtual 94, 3) := by decide +kernel
theorem dX8_whatIs_16 : decode cX8_whatIs 16 = .ok (.ireturn, 1) := by decide +kernel
theorem dX8_whatIs_17 : decode cX8_whatIs 17 = .ok (.iload_n 2, 1) := by decide +kernel
theorem dX8_whatIs_18 : decode cX8_whatIs 18 = .ok (.ifCond .eq 15, 3) := by decide +kernel
theorem dX8_whatIs_21 : decode cX8_whatIs 21 = .ok (.iload_n 2, 1) := by decide +kernel
theorem dX8_whatIs_22 : decode cX8_whatIs 22 = .ok (.iconst 1, 1) := by decide +kernel
theorem dX8_whatIs_23 : decode cX8_whatIs 23 = .ok (.if_icmp .eq 10, 3) := by decide +kernel
theorem dX8_whatIs_26 : decode cX8_whatIs 26 = .ok (.aload_n 0, 1) := by decide +kernel
theorem dX8_whatIs_27 : decode cX8_whatIs 27 = .ok (.bipush (-2), 2) := by decide +kernel
theorem dX8_whatIs_29 : decode cX8_whatIs 29 = .ok (.invokevirtual 94, 3) := by decide +kernel
theorem dX8_whatIs_32 : decode cX8_whatIs 32 = .ok (.ireturn, 1) := by decide +kernel
theorem dX8_whatIs_33 : decode cX8_whatIs 33 = .ok (.iconst 0, 1) := by decide +kernel
theorem dX8_whatIs_34 : decode cX8_whatIs 34 = .ok (.istore_n 3, 1) := by decide +kernel
theorem dX8_whatIs_35 : decode cX8_whatIs 35 = .ok (.iload_n 2, 1) := by decide +kernel
theorem dX8_whatIs_36 : decode cX8_whatIs 36 = .ok (.ifCond .ne 8, 3) := by decide +kernel
theorem dX8_whatIs_39 : decode cX8_whatIs 39 = .ok (.bipush 6, 2) := by decide +kernel
theorem dX8_whatIs_41 : decode cX8_whatIs 41 = .ok (.goto 5, 3) := by decide +kernel
theorem dX8_whatIs_44 : decode cX8_whatIs 44 = .ok (.bipush 10, 2) := by decide +kernel
theorem dX8_whatIs_46 : decode cX8_whatIs 46 = .ok (.istore 4, 2) := by decide +kernel
theorem dX8_whatIs_48 : decode cX8_whatIs 48 = .ok (.iconst 0, 1) := by decide +kernel
theorem dX8_whatIs_49 : decode cX8_whatIs 49 = .ok (.istore 5, 2) := by decide +kernel
theorem dX8_whatIs_51 : decode cX8_whatIs 51 = .ok (.iload 5, 2) := by decide +kernel
theorem dX8_whatIs_53 : decode cX8_whatIs 53 = .ok (.iload 4, 2) := by decide +kernel
theorem dX8_whatIs_55 : decode cX8_whatIs 55 = .ok (.if_icmp .ge 67, 3) := by decide +kernel
theorem dX8_whatIs_58 : decode cX8_whatIs 58 = .ok (.iload_n 2, 1) := by decide +kernel
theorem dX8_whatIs_59 : decode cX8_whatIs 59 = .ok (.ifCond .ne 8, 3) := by decide +kernel
theorem dX8_whatIs_62 : decode cX8_whatIs 62 = .ok (.iload 5, 2) := by decide +kernel
theorem dX8_whatIs_64 : decode cX8_whatIs 64 = .ok (.goto 12, 3) := by decide +kernel
theorem dX8_whatIs_67 : decode cX8_whatIs 67 = .ok (.aload_n 0, 1) := by decide +kernel
theorem dX8_whatIs_68 : decode cX8_whatIs 68 = .ok (.getfield 10, 3) := by decide +kernel
theorem dX8_whatIs_71 : decode cX8_whatIs 71 = .ok (.getfield 136, 3) := by decide +kernel
theorem dX8_whatIs_74 : decode cX8_whatIs 74 = .ok (.iload_n 1, 1) := by decide +kernel
theorem dX8_whatIs_75 : decode cX8_whatIs 75 = .ok (.iaload, 1) := by decide +kernel
theorem dX8_whatIs_76 : decode cX8_whatIs 76 = .ok (.istore 6, 2) := by decide +kernel
theorem dX8_whatIs_78 : decode cX8_whatIs 78 = .ok (.iload_n 2, 1) := by decide +kernel
theorem dX8_whatIs_79 : decode cX8_whatIs 79 = .ok (.ifCond .ne 15, 3) := by decide +kernel
theorem dX8_whatIs_82 : decode cX8_whatIs 82 = .ok (.aload_n 0, 1) := by decide +kernel
theorem dX8_whatIs_83 : decode cX8_whatIs 83 = .ok (.getfield 10, 3) := by decide +kernel
theorem dX8_whatIs_86 : decode cX8_whatIs 86 = .ok (.getfield 139, 3) := by decide +kernel
theorem dX8_whatIs_89 : decode cX8_whatIs 89 = .ok (.iload_n 1, 1) := by decide +kernel
theorem dX8_whatIs_90 : decode cX8_whatIs 90 = .ok (.iaload, 1) := by decide +kernel
theorem dX8_whatIs_91 : decode cX8_whatIs 91 = .ok (.goto 5, 3) := by decide +kernel
theorem dX8_whatIs_94 : decode cX8_whatIs 94 = .ok (.iload 5, 2) := by decide +kernel
theorem dX8_whatIs_96 : decode cX8_whatIs 96 = .ok (.istore 7, 2) := by decide +kernel
theorem dX8_whatIs_98 : decode cX8_whatIs 98 = .ok (.aload_n 0, 1) := by decide +kernel
theorem dX8_whatIs_99 : decode cX8_whatIs 99 = .ok (.iload 6, 2) := by decide +kernel
theorem dX8_whatIs_101 : decode cX8_whatIs 101 = .ok (.iload 7, 2) := by decide +kernel
theorem dX8_whatIs_103 : decode cX8_whatIs 103 = .ok (.invokevirtual 274, 3) := by decide +kernel
theorem dX8_whatIs_106 : decode cX8_whatIs 106 = .ok (.ifCond .eq 10, 3) := by decide +kernel
theorem dX8_whatIs_109 : decode cX8_whatIs 109 = .ok (.iload_n 3, 1) := by decide +kernel
theorem dX8_whatIs_110 : decode cX8_whatIs 110 = .ok (.iconst 1, 1) := by decide +kernel
theorem dX8_whatIs_111 : decode cX8_whatIs 111 = .ok (.iload 5, 2) := by decide +kernel
theorem dX8_whatIs_113 : decode cX8_whatIs 113 = .ok (.ishl, 1) := by decide +kernel
theorem dX8_whatIs_114 : decode cX8_whatIs 114 = .ok (.ior, 1) := by decide +kernel
theorem dX8_whatIs_115 : decode cX8_whatIs 115 = .ok (.istore_n 3, 1) := by decide +kernel
theorem dX8_whatIs_116 : decode cX8_whatIs 116 = .ok (.iinc 5 1, 3) := by decide +kernel
theorem dX8_whatIs_119 : decode cX8_whatIs 119 = .ok (.goto (-68), 3) := by decide +kernel
theorem dX8_whatIs_122 : decode cX8_whatIs 122 = .ok (.iload_n 3, 1) := by decide +kernel
theorem dX8_whatIs_123 : decode cX8_whatIs 123 = .ok (.ireturn, 1) := by decide +kernel
theorem dX8_row_0 : decode cX8_row 0 = .ok (.iload_n 1, 1) := by decide +kernel
theorem dX8_row_1 : decode cX8_row 1 = .ok (.iconst 0, 1) := by decide +kernel
theorem dX8_row_2 : decode cX8_row 2 = .ok (.bipush 99, 2) := by decide +kernel
theorem dX8_row_4 : decode cX8_row 4 = .ok (.invokestatic 241, 3) := by decide +kernel
theorem dX8_row_7 : decode cX8_row 7 = .ok (.istore_n 2, 1) := by decide +kernel
theorem dX8_row_8 : decode cX8_row 8 = .ok (.iload_n 2, 1) := by decide +kernel
theorem dX8_row_9 : decode cX8_row 9 = .ok (.ifCond .ne 15, 3) := by decide +kernel
theorem dX8_row_12 : decode cX8_row 12 = .ok (.aload_n 0, 1) := by decide +kernel
theorem dX8_row_13 : decode cX8_row 13 = .ok (.getfield 69, 3) := by decide +kernel
theorem dX8_row_16 : decode cX8_row 16 = .ok (.bipush 10, 2) := by decide +kernel
theorem dX8_row_18 : decode cX8_row 18 = .ok (.if_icmp .lt 6, 3) := by decide +kernel
theorem dX8_row_21 : decode cX8_row 21 = .ok (.bipush (-6), 2) := by decide +kernel
theorem dX8_row_23 : decode cX8_row 23 = .ok (.istore_n 2, 1) := by decide +kernel
theorem dX8_row_24 : decode cX8_row 24 = .ok (.iload_n 2, 1) := by decide +kernel
theorem dX8_row_25 : decode cX8_row 25 = .ok (.ifCond .eq 9, 3) := by decide +kernel
theorem dX8_row_28 : decode cX8_row 28 = .ok (.aload_n 0, 1) := by decide +kernel
theorem dX8_row_29 : decode cX8_row 29 = .ok (.iload_n 2, 1) := by decide +kernel
theorem dX8_row_30 : decode cX8_row 30 = .ok (.invokevirtual 94, 3) := by decide +kernel
theorem dX8_row_33 : decode cX8_row 33 = .ok (.ireturn, 1) := by decide +kernel
theorem dX8_row_34 : decode cX8_row 34 = .ok (.aload_n 0, 1) := by decide +kernel
theorem dX8_row_35 : decode cX8_row 35 = .ok (.getfield 65, 3) := by decide +kernel
theorem dX8_row_38 : decode cX8_row 38 = .ok (.aload_n 0, 1) := by decide +kernel
theorem dX8_row_39 : decode cX8_row 39 = .ok (.getfield 69, 3) := by decide +kernel
theorem dX8_row_42 : decode cX8_row 42 = .ok (.iload_n 1, 1) := by decide +kernel
theorem dX8_row_43 : decode cX8_row 43 = .ok (.iastore, 1) := by decide +kernel
theorem dX8_row_44 : decode cX8_row 44 = .ok (.aload_n 0, 1) := by decide +kernel
theorem dX8_row_45 : decode cX8_row 45 = .ok (.dup, 1) := by decide +kernel
theorem dX8_row_46 : decode cX8_row 46 = .ok (.getfield 69, 3) := by decide +kernel
theorem dX8_row_49 : decode cX8_row 49 = .ok (.iconst 1, 1) := by decide +kernel
theorem dX8_row_50 : decode cX8_row 50 = .ok (.iadd, 1) := by decide +kernel
theorem dX8_row_51 : decode cX8_row 51 = .ok (.putfield 69, 3) := by decide +kernel
theorem dX8_row_54 : decode cX8_row 54 = .ok (.aload_n 0, 1) := by decide +kernel
theorem dX8_row_55 : decode cX8_row 55 = .ok (.getfield 69, 3) := by decide +kernel
theorem dX8_row_58 : decode cX8_row 58 = .ok (.ireturn, 1) := by decide +kernel
theorem dX8_clear_0 : decode cX8_clear 0 = .ok (.aload_n 0, 1) := by decide +kernel
theorem dX8_clear_1 : decode cX8_clear 1 = .ok (.getfield 69, 3) := by decide +kernel
theorem dX8_clear_4 : decode cX8_clear 4 = .ok (.istore_n 1, 1) := by decide +kernel
theorem dX8_clear_5 : decode cX8_clear 5 = .ok (.aload_n 0, 1) := by decide +kernel
theorem dX8_clear_6 : decode cX8_clear 6 = .ok (.iconst 0, 1) := by decide +kernel
theorem dX8_clear_7 : decode cX8_clear 7 = .ok (.putfield 69, 3) := by decide +kernel
theorem dX8_clear_10 : decode cX8_clear 10 = .ok (.iload_n 1, 1) := by decide +kernel
theorem dX8_clear_11 : decode cX8_clear 11 = .ok (.ireturn, 1) := by decide +kernel
theorem dX8_list_0 : decode cX8_list 0 = .ok (.aload_n 0, 1) := by decide +kernel
theorem dX8_list_1 : decode cX8_list 1 = .ok (.aload_n 0, 1) := by decide +kernel
theorem dX8_list_2 : decode cX8_list 2 = .ok (.getfield 76, 3) := by decide +kernel
theorem dX8_list_5 : decode cX8_list 5 = .ok (.iload_n 1, 1) := by decide +kernel
theorem dX8_list_6 : decode cX8_list 6 = .ok (.iload_n 2, 1) := by decide +kernel
theorem dX8_list_7 : decode cX8_list 7 = .ok (.invokevirtual 277, 3) := by decide +kernel
theorem dX8_list_10 : decode cX8_list 10 = .ok (.invokevirtual 94, 3) := by decide +kernel
theorem dX8_list_13 : decode cX8_list 13 = .ok (.ireturn, 1) := by decide +kernel
theorem dX8_put_0 : decode cX8_put 0 = .ok (.aload_n 0, 1) := by decide +kernel
theorem dX8_put_1 : decode cX8_put 1 = .ok (.getfield 76, 3) := by decide +kernel
theorem dX8_put_4 : decode cX8_put 4 = .ok (.iload_n 1, 1) := by decide +kernel
theorem dX8_put_5 : decode cX8_put 5 = .ok (.iload_n 2, 1) := by decide +kernel
theorem dX8_put_6 : decode cX8_put 6 = .ok (.invokevirtual 280, 3) := by decide +kernel
theorem dX8_put_9 : decode cX8_put 9 = .ok (.istore 5, 2) := by decide +kernel
theorem dX8_put_11 : decode cX8_put 11 = .ok (.iload 5, 2) := by decide +kernel
theorem dX8_put_13 : decode cX8_put 13 = .ok (.ifCond .eq 10, 3) := by decide +kernel
theorem dX8_put_16 : decode cX8_put 16 = .ok (.aload_n 0, 1) := by decide +kernel
theorem dX8_put_17 : decode cX8_put 17 = .ok (.iload 5, 2) := by decide +kernel
theorem dX8_put_19 : decode cX8_put 19 = .ok (.invokevirtual 94, 3) := by decide +kernel
theorem dX8_put_22 : decode cX8_put 22 = .ok (.ireturn, 1) := by decide +kernel
theorem dX8_put_23 : decode cX8_put 23 = .ok (.aload_n 0, 1) := by decide +kernel
theorem dX8_put_24 : decode cX8_put 24 = .ok (.getfield 76, 3) := by decide +kernel
theorem dX8_put_27 : decode cX8_put 27 = .ok (.getfield 283, 3) := by decide +kernel
theorem dX8_put_30 : decode cX8_put 30 = .ok (.iload_n 1, 1) := by decide +kernel
theorem dX8_put_31 : decode cX8_put 31 = .ok (.aaload, 1) := by decide +kernel
theorem dX8_put_32 : decode cX8_put 32 = .ok (.iload_n 2, 1) := by decide +kernel
theorem dX8_put_33 : decode cX8_put 33 = .ok (.lload_n 3, 1) := by decide +kernel
theorem dX8_put_34 : decode cX8_put 34 = .ok (.lastore, 1) := by decide +kernel
theorem dX8_put_35 : decode cX8_put 35 = .ok (.iconst 1, 1) := by decide +kernel
theorem dX8_put_36 : decode cX8_put 36 = .ok (.ireturn, 1) := by decide +kernel
theorem dX8_look_0 : decode cX8_look 0 = .ok (.aload_n 0, 1) := by decide +kernel
theorem dX8_look_1 : decode cX8_look 1 = .ok (.getfield 76, 3) := by decide +kernel
theorem dX8_look_4 : decode cX8_look 4 = .ok (.iload_n 1, 1) := by decide +kernel
theorem dX8_look_5 : decode cX8_look 5 = .ok (.iload_n 2, 1) := by decide +kernel
theorem dX8_look_6 : decode cX8_look 6 = .ok (.invokevirtual 280, 3) := by decide +kernel
theorem dX8_look_9 : decode cX8_look 9 = .ok (.istore_n 3, 1) := by decide +kernel
theorem dX8_look_10 : decode cX8_look 10 = .ok (.iload_n 3, 1) := by decide +kernel
theorem dX8_look_11 : decode cX8_look 11 = .ok (.ifCond .eq 11, 3) := by decide +kernel
theorem dX8_look_14 : decode cX8_look 14 = .ok (.aload_n 0, 1) := by decide +kernel
theorem dX8_look_15 : decode cX8_look 15 = .ok (.iload_n 3, 1) := by decide +kernel
theorem dX8_look_16 : decode cX8_look 16 = .ok (.invokevirtual 167, 3) := by decide +kernel
theorem dX8_look_19 : decode cX8_look 19 = .ok (.goto 14, 3) := by decide +kernel
theorem dX8_look_22 : decode cX8_look 22 = .ok (.aload_n 0, 1) := by decide +kernel
theorem dX8_look_23 : decode cX8_look 23 = .ok (.getfield 76, 3) := by decide +kernel
theorem dX8_look_26 : decode cX8_look 26 = .ok (.getfield 283, 3) := by decide +kernel
theorem dX8_look_29 : decode cX8_look 29 = .ok (.iload_n 1, 1) := by decide +kernel
theorem dX8_look_30 : decode cX8_look 30 = .ok (.aaload, 1) := by decide +kernel
theorem dX8_look_31 : decode cX8_look 31 = .ok (.iload_n 2, 1) := by decide +kernel
theorem dX8_look_32 : decode cX8_look 32 = .ok (.laload, 1) := by decide +kernel
theorem dX8_look_33 : decode cX8_look 33 = .ok (.lreturn, 1) := by decide +kernel
theorem dX8_lays_0 : decode cX8_lays 0 = .ok (.aload_n 0, 1) := by decide +kernel
theorem dX8_lays_1 : decode cX8_lays 1 = .ok (.getfield 10, 3) := by decide +kernel
theorem dX8_lays_4 : decode cX8_lays 4 = .ok (.iload_n 2, 1) := by decide +kernel
theorem dX8_lays_5 : decode cX8_lays 5 = .ok (.invokevirtual 154, 3) := by decide +kernel
theorem dX8_lays_8 : decode cX8_lays 8 = .ok (.ifCond .eq 14, 3) := by decide +kernel
theorem dX8_lays_11 : decode cX8_lays 11 = .ok (.aload_n 0, 1) := by decide +kernel
theorem dX8_lays_12 : decode cX8_lays 12 = .ok (.getfield 76, 3) := by decide +kernel
theorem dX8_lays_15 : decode cX8_lays 15 = .ok (.iload_n 1, 1) := by decide +kernel
theorem dX8_lays_16 : decode cX8_lays 16 = .ok (.invokevirtual 287, 3) := by decide +kernel
theorem dX8_lays_19 : decode cX8_lays 19 = .ok (.goto 4, 3) := by decide +kernel
theorem dX8_lays_22 : decode cX8_lays 22 = .ok (.iconst (-1), 1) := by decide +kernel
theorem dX8_lays_23 : decode cX8_lays 23 = .ok (.istore 4, 2) := by decide +kernel
theorem dX8_lays_25 : decode cX8_lays 25 = .ok (.iload 4, 2) := by decide +kernel
theorem dX8_lays_27 : decode cX8_lays 27 = .ok (.ifCond .eq 10, 3) := by decide +kernel
theorem dX8_lays_30 : decode cX8_lays 30 = .ok (.aload_n 0, 1) := by decide +kernel
theorem dX8_lays_31 : decode cX8_lays 31 = .ok (.iload 4, 2) := by decide +kernel
theorem dX8_lays_33 : decode cX8_lays 33 = .ok (.invokevirtual 94, 3) := by decide +kernel
theorem dX8_lays_36 : decode cX8_lays 36 = .ok (.ireturn, 1) := by decide +kernel
theorem dX8_lays_37 : decode cX8_lays 37 = .ok (.aload_n 0, 1) := by decide +kernel
theorem dX8_lays_38 : decode cX8_lays 38 = .ok (.getfield 10, 3) := by decide +kernel
theorem dX8_lays_41 : decode cX8_lays 41 = .ok (.iconst 1, 1) := by decide +kernel
theorem dX8_lays_42 : decode cX8_lays 42 = .ok (.iload_n 2, 1) := by decide +kernel
theorem dX8_lays_43 : decode cX8_lays 43 = .ok (.ishl, 1) := by decide +kernel
theorem dX8_lays_44 : decode cX8_lays 44 = .ok (.aload_n 0, 1) := by decide +kernel
theorem dX8_lays_45 : decode cX8_lays 45 = .ok (.getfield 10, 3) := by decide +kernel
theorem dX8_lays_48 : decode cX8_lays 48 = .ok (.invokevirtual 157, 3) := by decide +kernel
theorem dX8_lays_51 : decode cX8_lays 51 = .ok (.invokevirtual 161, 3) := by decide +kernel
theorem dX8_lays_54 : decode cX8_lays 54 = .ok (.istore 5, 2) := by decide +kernel
theorem dX8_lays_56 : decode cX8_lays 56 = .ok (.aload_n 0, 1) := by decide +kernel
theorem dX8_lays_57 : decode cX8_lays 57 = .ok (.getfield 29, 3) := by decide +kernel
theorem dX8_lays_60 : decode cX8_lays 60 = .ok (.aload_n 0, 1) := by decide +kernel
theorem dX8_lays_61 : decode cX8_lays 61 = .ok (.getfield 10, 3) := by decide +kernel
theorem dX8_lays_64 : decode cX8_lays 64 = .ok (.aload_n 0, 1) := by decide +kernel
theorem dX8_lays_65 : decode cX8_lays 65 = .ok (.getfield 10, 3) := by decide +kernel
theorem dX8_lays_68 : decode cX8_lays 68 = .ok (.invokevirtual 157, 3) := by decide +kernel
theorem dX8_lays_71 : decode cX8_lays 71 = .ok (.iload_n 2, 1) := by decide +kernel
theorem dX8_lays_72 : decode cX8_lays 72 = .ok (.invokevirtual 171, 3) := by decide +kernel
theorem dX8_lays_75 : decode cX8_lays 75 = .ok (.iload_n 3, 1) := by decide +kernel
theorem dX8_lays_76 : decode cX8_lays 76 = .ok (.istore 6, 2) := by decide +kernel
theorem dX8_lays_78 : decode cX8_lays 78 = .ok (.iconst 0, 1) := by decide +kernel
theorem dX8_lays_79 : decode cX8_lays 79 = .ok (.istore 7, 2) := by decide +kernel
theorem dX8_lays_81 : decode cX8_lays 81 = .ok (.iload 7, 2) := by decide +kernel
theorem dX8_lays_83 : decode cX8_lays 83 = .ok (.iconst 2, 1) := by decide +kernel
theorem dX8_lays_84 : decode cX8_lays 84 = .ok (.aload_n 0, 1) := by decide +kernel
theorem dX8_lays_85 : decode cX8_lays 85 = .ok (.getfield 10, 3) := by decide +kernel
theorem dX8_lays_88 : decode cX8_lays 88 = .ok (.getfield 216, 3) := by decide +kernel
theorem dX8_lays_91 : decode cX8_lays 91 = .ok (.imul, 1) := by decide +kernel
theorem dX8_lays_92 : decode cX8_lays 92 = .ok (.if_icmp .ge 48, 3) := by decide +kernel
theorem dX8_lays_95 : decode cX8_lays 95 = .ok (.aload_n 0, 1) := by decide +kernel
theorem dX8_lays_96 : decode cX8_lays 96 = .ok (.getfield 76, 3) := by decide +kernel
theorem dX8_lays_99 : decode cX8_lays 99 = .ok (.iload_n 1, 1) := by decide +kernel
theorem dX8_lays_100 : decode cX8_lays 100 = .ok (.iload 6, 2) := by decide +kernel
theorem dX8_lays_102 : decode cX8_lays 102 = .ok (.invokevirtual 289, 3) := by decide +kernel
theorem dX8_lays_105 : decode cX8_lays 105 = .ok (.ifCond .ne 6, 3) := by decide +kernel
theorem dX8_lays_108 : decode cX8_lays 108 = .ok (.bipush (-13), 2) := by decide +kernel
theorem dX8_lays_110 : decode cX8_lays 110 = .ok (.ireturn, 1) := by decide +kernel
theorem dX8_lays_111 : decode cX8_lays 111 = .ok (.aload_n 0, 1) := by decide +kernel
theorem dX8_lays_112 : decode cX8_lays 112 = .ok (.getfield 76, 3) := by decide +kernel
theorem dX8_lays_115 : decode cX8_lays 115 = .ok (.getfield 283, 3) := by decide +kernel
theorem dX8_lays_118 : decode cX8_lays 118 = .ok (.iload_n 1, 1) := by decide +kernel
theorem dX8_lays_119 : decode cX8_lays 119 = .ok (.aaload, 1) := by decide +kernel
theorem dX8_lays_120 : decode cX8_lays 120 = .ok (.iload 6, 2) := by decide +kernel
theorem dX8_lays_122 : decode cX8_lays 122 = .ok (.aload_n 0, 1) := by decide +kernel
theorem dX8_lays_123 : decode cX8_lays 123 = .ok (.iload 5, 2) := by decide +kernel
theorem dX8_lays_125 : decode cX8_lays 125 = .ok (.iload 7, 2) := by decide +kernel
theorem dX8_lays_127 : decode cX8_lays 127 = .ok (.invokevirtual 292, 3) := by decide +kernel
theorem dX8_lays_130 : decode cX8_lays 130 = .ok (.lastore, 1) := by decide +kernel
theorem dX8_lays_131 : decode cX8_lays 131 = .ok (.iinc 6 1, 3) := by decide +kernel
theorem dX8_lays_134 : decode cX8_lays 134 = .ok (.iinc 7 1, 3) := by decide +kernel
theorem dX8_lays_137 : decode cX8_lays 137 = .ok (.goto (-56), 3) := by decide +kernel
theorem dX8_lays_140 : decode cX8_lays 140 = .ok (.aload_n 0, 1) := by decide +kernel
theorem dX8_lays_141 : decode cX8_lays 141 = .ok (.getfield 10, 3) := by decide +kernel
theorem dX8_lays_144 : decode cX8_lays 144 = .ok (.getfield 216, 3) := by decide +kernel
theorem dX8_lays_147 : decode cX8_lays 147 = .ok (.ireturn, 1) := by decide +kernel
theorem dX8_judge_0 : decode cX8_judge 0 = .ok (.aload_n 0, 1) := by decide +kernel
theorem dX8_judge_1 : decode cX8_judge 1 = .ok (.getfield 10, 3) := by decide +kernel
theorem dX8_judge_4 : decode cX8_judge 4 = .ok (.iload_n 2, 1) := by decide +kernel
theorem dX8_judge_5 : decode cX8_judge 5 = .ok (.invokevirtual 154, 3) := by decide +kernel
theorem dX8_judge_8 : decode cX8_judge 8 = .ok (.ifCond .eq 14, 3) := by decide +kernel
theorem dX8_judge_11 : decode cX8_judge 11 = .ok (.aload_n 0, 1) := by decide +kernel
theorem dX8_judge_12 : decode cX8_judge 12 = .ok (.getfield 76, 3) := by decide +kernel
theorem dX8_judge_15 : decode cX8_judge 15 = .ok (.iload_n 1, 1) := by decide +kernel
theorem dX8_judge_16 : decode cX8_judge 16 = .ok (.invokevirtual 287, 3) := by decide +kernel
theorem dX8_judge_19 : decode cX8_judge 19 = .ok (.goto 4, 3) := by decide +kernel
theorem dX8_judge_22 : decode cX8_judge 22 = .ok (.iconst (-1), 1) := by decide +kernel
theorem dX8_judge_23 : decode cX8_judge 23 = .ok (.istore_n 3, 1) := by decide +kernel
theorem dX8_judge_24 : decode cX8_judge 24 = .ok (.iload_n 3, 1) := by decide +kernel
theorem dX8_judge_25 : decode cX8_judge 25 = .ok (.ifCond .eq 9, 3) := by decide +kernel
theorem dX8_judge_28 : decode cX8_judge 28 = .ok (.aload_n 0, 1) := by decide +kernel
theorem dX8_judge_29 : decode cX8_judge 29 = .ok (.iload_n 3, 1) := by decide +kernel
theorem dX8_judge_30 : decode cX8_judge 30 = .ok (.invokevirtual 94, 3) := by decide +kernel
theorem dX8_judge_33 : decode cX8_judge 33 = .ok (.ireturn, 1) := by decide +kernel
theorem dX8_judge_34 : decode cX8_judge 34 = .ok (.aload_n 0, 1) := by decide +kernel
theorem dX8_judge_35 : decode cX8_judge 35 = .ok (.getfield 10, 3) := by decide +kernel
theorem dX8_judge_38 : decode cX8_judge 38 = .ok (.iconst 1, 1) := by decide +kernel
theorem dX8_judge_39 : decode cX8_judge 39 = .ok (.iload_n 2, 1) := by decide +kernel
theorem dX8_judge_40 : decode cX8_judge 40 = .ok (.ishl, 1) := by decide +kernel
theorem dX8_judge_41 : decode cX8_judge 41 = .ok (.aload_n 0, 1) := by decide +kernel
theorem dX8_judge_42 : decode cX8_judge 42 = .ok (.getfield 10, 3) := by decide +kernel
theorem dX8_judge_45 : decode cX8_judge 45 = .ok (.invokevirtual 157, 3) := by decide +kernel
theorem dX8_judge_48 : decode cX8_judge 48 = .ok (.invokevirtual 161, 3) := by decide +kernel
theorem dX8_judge_51 : decode cX8_judge 51 = .ok (.istore 4, 2) := by decide +kernel
theorem dX8_judge_53 : decode cX8_judge 53 = .ok (.aload_n 0, 1) := by decide +kernel
theorem dX8_judge_54 : decode cX8_judge 54 = .ok (.getfield 29, 3) := by decide +kernel
theorem dX8_judge_57 : decode cX8_judge 57 = .ok (.aload_n 0, 1) := by decide +kernel
theorem dX8_judge_58 : decode cX8_judge 58 = .ok (.getfield 10, 3) := by decide +kernel
theorem dX8_judge_61 : decode cX8_judge 61 = .ok (.aload_n 0, 1) := by decide +kernel
theorem dX8_judge_62 : decode cX8_judge 62 = .ok (.getfield 10, 3) := by decide +kernel
theorem dX8_judge_65 : decode cX8_judge 65 = .ok (.invokevirtual 157, 3) := by decide +kernel
theorem dX8_judge_68 : decode cX8_judge 68 = .ok (.iload_n 2, 1) := by decide +kernel
theorem dX8_judge_69 : decode cX8_judge 69 = .ok (.invokevirtual 171, 3) := by decide +kernel
theorem dX8_judge_72 : decode cX8_judge 72 = .ok (.iconst 0, 1) := by decide +kernel
theorem dX8_judge_73 : decode cX8_judge 73 = .ok (.istore 5, 2) := by decide +kernel
theorem dX8_judge_75 : decode cX8_judge 75 = .ok (.iload 5, 2) := by decide +kernel
theorem dX8_judge_77 : decode cX8_judge 77 = .ok (.iconst 2, 1) := by decide +kernel
theorem dX8_judge_78 : decode cX8_judge 78 = .ok (.aload_n 0, 1) := by decide +kernel
theorem dX8_judge_79 : decode cX8_judge 79 = .ok (.getfield 10, 3) := by decide +kernel
theorem dX8_judge_82 : decode cX8_judge 82 = .ok (.getfield 216, 3) := by decide +kernel
theorem dX8_judge_85 : decode cX8_judge 85 = .ok (.imul, 1) := by decide +kernel
theorem dX8_judge_86 : decode cX8_judge 86 = .ok (.if_icmp .ge 59, 3) := by decide +kernel
theorem dX8_judge_89 : decode cX8_judge 89 = .ok (.aload_n 0, 1) := by decide +kernel
theorem dX8_judge_90 : decode cX8_judge 90 = .ok (.getfield 76, 3) := by decide +kernel
theorem dX8_judge_93 : decode cX8_judge 93 = .ok (.iload_n 1, 1) := by decide +kernel
theorem dX8_judge_94 : decode cX8_judge 94 = .ok (.iload 5, 2) := by decide +kernel
theorem dX8_judge_96 : decode cX8_judge 96 = .ok (.invokevirtual 289, 3) := by decide +kernel
theorem dX8_judge_99 : decode cX8_judge 99 = .ok (.ifCond .ne 11, 3) := by decide +kernel
theorem dX8_judge_102 : decode cX8_judge 102 = .ok (.bipush 100, 2) := by decide +kernel
theorem dX8_judge_104 : decode cX8_judge 104 = .ok (.iload 5, 2) := by decide +kernel
theorem dX8_judge_106 : decode cX8_judge 106 = .ok (.iconst 2, 1) := by decide +kernel
theorem dX8_judge_107 : decode cX8_judge 107 = .ok (.idiv, 1) := by decide +kernel
theorem dX8_judge_108 : decode cX8_judge 108 = .ok (.iadd, 1) := by decide +kernel
theorem dX8_judge_109 : decode cX8_judge 109 = .ok (.ireturn, 1) := by decide +kernel
theorem dX8_judge_110 : decode cX8_judge 110 = .ok (.aload_n 0, 1) := by decide +kernel
theorem dX8_judge_111 : decode cX8_judge 111 = .ok (.getfield 76, 3) := by decide +kernel
theorem dX8_judge_114 : decode cX8_judge 114 = .ok (.getfield 283, 3) := by decide +kernel
theorem dX8_judge_117 : decode cX8_judge 117 = .ok (.iload_n 1, 1) := by decide +kernel
theorem dX8_judge_118 : decode cX8_judge 118 = .ok (.aaload, 1) := by decide +kernel
theorem dX8_judge_119 : decode cX8_judge 119 = .ok (.iload 5, 2) := by decide +kernel
theorem dX8_judge_121 : decode cX8_judge 121 = .ok (.laload, 1) := by decide +kernel
theorem dX8_judge_122 : decode cX8_judge 122 = .ok (.aload_n 0, 1) := by decide +kernel
theorem dX8_judge_123 : decode cX8_judge 123 = .ok (.iload 4, 2) := by decide +kernel
theorem dX8_judge_125 : decode cX8_judge 125 = .ok (.iload 5, 2) := by decide +kernel
theorem dX8_judge_127 : decode cX8_judge 127 = .ok (.invokevirtual 292, 3) := by decide +kernel
theorem dX8_judge_130 : decode cX8_judge 130 = .ok (.lcmp, 1) := by decide +kernel
theorem dX8_judge_131 : decode cX8_judge 131 = .ok (.ifCond .eq 8, 3) := by decide +kernel
theorem dX8_judge_134 : decode cX8_judge 134 = .ok (.iload 5, 2) := by decide +kernel
theorem dX8_judge_136 : decode cX8_judge 136 = .ok (.iconst 2, 1) := by decide +kernel
theorem dX8_judge_137 : decode cX8_judge 137 = .ok (.idiv, 1) := by decide +kernel
theorem dX8_judge_138 : decode cX8_judge 138 = .ok (.ireturn, 1) := by decide +kernel
theorem dX8_judge_139 : decode cX8_judge 139 = .ok (.iinc 5 1, 3) := by decide +kernel
theorem dX8_judge_142 : decode cX8_judge 142 = .ok (.goto (-67), 3) := by decide +kernel
theorem dX8_judge_145 : decode cX8_judge 145 = .ok (.bipush (-9), 2) := by decide +kernel
theorem dX8_judge_147 : decode cX8_judge 147 = .ok (.ireturn, 1) := by decide +kernel
theorem dX8_slot_0 : decode cX8_slot 0 = .ok (.aload_n 0, 1) := by decide +kernel
theorem dX8_slot_1 : decode cX8_slot 1 = .ok (.aload_n 0, 1) := by decide +kernel
theorem dX8_slot_2 : decode cX8_slot 2 = .ok (.getfield 83, 3) := by decide +kernel
theorem dX8_slot_5 : decode cX8_slot 5 = .ok (.iload_n 1, 1) := by decide +kernel
theorem dX8_slot_6 : decode cX8_slot 6 = .ok (.iload_n 2, 1) := by decide +kernel
theorem dX8_slot_7 : decode cX8_slot 7 = .ok (.iload_n 3, 1) := by decide +kernel
theorem dX8_slot_8 : decode cX8_slot 8 = .ok (.invokevirtual 295, 3) := by decide +kernel
theorem dX8_slot_11 : decode cX8_slot 11 = .ok (.invokevirtual 94, 3) := by decide +kernel
theorem dX8_slot_14 : decode cX8_slot 14 = .ok (.ireturn, 1) := by decide +kernel
theorem dX8_slots_0 : decode cX8_slots 0 = .ok (.iload_n 3, 1) := by decide +kernel
theorem dX8_slots_1 : decode cX8_slots 1 = .ok (.iconst (-1), 1) := by decide +kernel
theorem dX8_slots_2 : decode cX8_slots 2 = .ok (.if_icmp .eq 20, 3) := by decide +kernel
theorem dX8_slots_5 : decode cX8_slots 5 = .ok (.aload_n 0, 1) := by decide +kernel
theorem dX8_slots_6 : decode cX8_slots 6 = .ok (.getfield 10, 3) := by decide +kernel
theorem dX8_slots_9 : decode cX8_slots 9 = .ok (.iload_n 3, 1) := by decide +kernel
theorem dX8_slots_10 : decode cX8_slots 10 = .ok (.invokevirtual 126, 3) := by decide +kernel
theorem dX8_slots_13 : decode cX8_slots 13 = .ok (.ifCond .ne 9, 3) := by decide +kernel
theorem dX8_slots_16 : decode cX8_slots 16 = .ok (.aload_n 0, 1) := by decide +kernel
theorem dX8_slots_17 : decode cX8_slots 17 = .ok (.iconst (-1), 1) := by decide +kernel
theorem dX8_slots_18 : decode cX8_slots 18 = .ok (.invokevirtual 94, 3) := by decide +kernel
theorem dX8_slots_21 : decode cX8_slots 21 = .ok (.ireturn, 1) := by decide +kernel
theorem dX8_slots_22 : decode cX8_slots 22 = .ok (.iload_n 3, 1) := by decide +kernel
theorem dX8_slots_23 : decode cX8_slots 23 = .ok (.iconst (-1), 1) := by decide +kernel
theorem dX8_slots_24 : decode cX8_slots 24 = .ok (.if_icmp .ne 7, 3) := by decide +kernel
theorem dX8_slots_27 : decode cX8_slots 27 = .ok (.iconst (-1), 1) := by decide +kernel
theorem dX8_slots_28 : decode cX8_slots 28 = .ok (.goto 12, 3) := by decide +kernel
theorem dX8_slots_31 : decode cX8_slots 31 = .ok (.aload_n 0, 1) := by decide +kernel
theorem dX8_slots_32 : decode cX8_slots 32 = .ok (.getfield 10, 3) := by decide +kernel
theorem dX8_slots_35 : decode cX8_slots 35 = .ok (.getfield 136, 3) := by decide +kernel
theorem dX8_slots_38 : decode cX8_slots 38 = .ok (.iload_n 3, 1) := by decide +kernel
theorem dX8_slots_39 : decode cX8_slots 39 = .ok (.iaload, 1) := by decide +kernel
theorem dX8_slots_40 : decode cX8_slots 40 = .ok (.istore 4, 2) := by decide +kernel
theorem dX8_slots_42 : decode cX8_slots 42 = .ok (.iload_n 3, 1) := by decide +kernel
theorem dX8_slots_43 : decode cX8_slots 43 = .ok (.iconst (-1), 1) := by decide +kernel
theorem dX8_slots_44 : decode cX8_slots 44 = .ok (.if_icmp .ne 7, 3) := by decide +kernel
theorem dX8_slots_47 : decode cX8_slots 47 = .ok (.iconst 0, 1) := by decide +kernel
theorem dX8_slots_48 : decode cX8_slots 48 = .ok (.goto 12, 3) := by decide +kernel
theorem dX8_slots_51 : decode cX8_slots 51 = .ok (.aload_n 0, 1) := by decide +kernel
theorem dX8_slots_52 : decode cX8_slots 52 = .ok (.getfield 10, 3) := by decide +kernel
theorem dX8_slots_55 : decode cX8_slots 55 = .ok (.getfield 139, 3) := by decide +kernel
theorem dX8_slots_58 : decode cX8_slots 58 = .ok (.iload_n 3, 1) := by decide +kernel
theorem dX8_slots_59 : decode cX8_slots 59 = .ok (.iaload, 1) := by decide +kernel
theorem dX8_slots_60 : decode cX8_slots 60 = .ok (.istore 5, 2) := by decide +kernel
theorem dX8_slots_62 : decode cX8_slots 62 = .ok (.aload_n 0, 1) := by decide +kernel
theorem dX8_slots_63 : decode cX8_slots 63 = .ok (.aload_n 0, 1) := by decide +kernel
theorem dX8_slots_64 : decode cX8_slots 64 = .ok (.getfield 83, 3) := by decide +kernel
theorem dX8_slots_67 : decode cX8_slots 67 = .ok (.iload_n 1, 1) := by decide +kernel
theorem dX8_slots_68 : decode cX8_slots 68 = .ok (.iload_n 2, 1) := by decide +kernel
theorem dX8_slots_69 : decode cX8_slots 69 = .ok (.iload 4, 2) := by decide +kernel
theorem dX8_slots_71 : decode cX8_slots 71 = .ok (.iload 5, 2) := by decide +kernel
theorem dX8_slots_73 : decode cX8_slots 73 = .ok (.invokevirtual 297, 3) := by decide +kernel
theorem dX8_slots_76 : decode cX8_slots 76 = .ok (.invokevirtual 94, 3) := by decide +kernel
theorem dX8_slots_79 : decode cX8_slots 79 = .ok (.ireturn, 1) := by decide +kernel
theorem dX8_slotted_0 : decode cX8_slotted 0 = .ok (.aload_n 0, 1) := by decide +kernel
theorem dX8_slotted_1 : decode cX8_slotted 1 = .ok (.aload_n 0, 1) := by decide +kernel
theorem dX8_slotted_2 : decode cX8_slotted 2 = .ok (.getfield 83, 3) := by decide +kernel
theorem dX8_slotted_5 : decode cX8_slotted 5 = .ok (.iload_n 1, 1) := by decide +kernel
theorem dX8_slotted_6 : decode cX8_slotted 6 = .ok (.iload_n 2, 1) := by decide +kernel
theorem dX8_slotted_7 : decode cX8_slotted 7 = .ok (.iload_n 3, 1) := by decide +kernel
theorem dX8_slotted_8 : decode cX8_slotted 8 = .ok (.invokevirtual 299, 3) := by decide +kernel
theorem dX8_slotted_11 : decode cX8_slotted 11 = .ok (.invokevirtual 94, 3) := by decide +kernel
theorem dX8_slotted_14 : decode cX8_slotted 14 = .ok (.ireturn, 1) := by decide +kernel
theorem dX8_like_0 : decode cX8_like 0 = .ok (.aload_n 0, 1) := by decide +kernel
theorem dX8_like_1 : decode cX8_like 1 = .ok (.aload_n 0, 1) := by decide +kernel
theorem dX8_like_2 : decode cX8_like 2 = .ok (.getfield 83, 3) := by decide +kernel
theorem dX8_like_5 : decode cX8_like 5 = .ok (.iload_n 1, 1) := by decide +kernel
theorem dX8_like_6 : decode cX8_like 6 = .ok (.iload_n 2, 1) := by decide +kernel
theorem dX8_like_7 : decode cX8_like 7 = .ok (.invokevirtual 302, 3) := by decide +kernel
theorem dX8_like_10 : decode cX8_like 10 = .ok (.invokevirtual 94, 3) := by decide +kernel
theorem dX8_like_13 : decode cX8_like 13 = .ok (.ireturn, 1) := by decide +kernel
theorem dX8_image_0 : decode cX8_image 0 = .ok (.aload_n 0, 1) := by decide +kernel
theorem dX8_image_1 : decode cX8_image 1 = .ok (.getfield 19, 3) := by decide +kernel
theorem dX8_image_4 : decode cX8_image 4 = .ok (.aload_n 0, 1) := by decide +kernel
theorem dX8_image_5 : decode cX8_image 5 = .ok (.getfield 10, 3) := by decide +kernel
theorem dX8_image_8 : decode cX8_image 8 = .ok (.invokevirtual 97, 3) := by decide +kernel
theorem dX8_image_11 : decode cX8_image 11 = .ok (.aload_n 0, 1) := by decide +kernel
theorem dX8_image_12 : decode cX8_image 12 = .ok (.iconst 1, 1) := by decide +kernel
theorem dX8_image_13 : decode cX8_image 13 = .ok (.putfield 22, 3) := by decide +kernel
theorem dX8_image_16 : decode cX8_image 16 = .ok (.aload_n 0, 1) := by decide +kernel
theorem dX8_image_17 : decode cX8_image 17 = .ok (.getfield 10, 3) := by decide +kernel
theorem dX8_image_20 : decode cX8_image 20 = .ok (.getfield 227, 3) := by decide +kernel
theorem dX8_image_23 : decode cX8_image 23 = .ok (.ireturn, 1) := by decide +kernel
theorem dX8_on_0 : decode cX8_on 0 = .ok (.aload_n 0, 1) := by decide +kernel
theorem dX8_on_1 : decode cX8_on 1 = .ok (.getfield 22, 3) := by decide +kernel
theorem dX8_on_4 : decode cX8_on 4 = .ok (.ifCond .ne 10, 3) := by decide +kernel
theorem dX8_on_7 : decode cX8_on 7 = .ok (.aload_n 0, 1) := by decide +kernel
theorem dX8_on_8 : decode cX8_on 8 = .ok (.bipush (-3), 2) := by decide +kernel
theorem dX8_on_10 : decode cX8_on 10 = .ok (.invokevirtual 94, 3) := by decide +kernel
theorem dX8_on_13 : decode cX8_on 13 = .ok (.ireturn, 1) := by decide +kernel
theorem dX8_on_14 : decode cX8_on 14 = .ok (.aload_n 0, 1) := by decide +kernel
theorem dX8_on_15 : decode cX8_on 15 = .ok (.getfield 10, 3) := by decide +kernel
theorem dX8_on_18 : decode cX8_on 18 = .ok (.aload_n 0, 1) := by decide +kernel
theorem dX8_on_19 : decode cX8_on 19 = .ok (.getfield 19, 3) := by decide +kernel
theorem dX8_on_22 : decode cX8_on 22 = .ok (.invokevirtual 97, 3) := by decide +kernel
theorem dX8_on_25 : decode cX8_on 25 = .ok (.aload_n 0, 1) := by decide +kernel
theorem dX8_on_26 : decode cX8_on 26 = .ok (.getfield 10, 3) := by decide +kernel
theorem dX8_on_29 : decode cX8_on 29 = .ok (.getfield 227, 3) := by decide +kernel
theorem dX8_on_32 : decode cX8_on 32 = .ok (.ireturn, 1) := by decide +kernel
theorem dX8_count_0 : decode cX8_count 0 = .ok (.iload_n 1, 1) := by decide +kernel
theorem dX8_count_1 : decode cX8_count 1 = .ok (.tableswitch 84 0 5 #[39, 47, 55, 63, 68, 76], 39) := by decide +kernel
theorem dX8_count_40 : decode cX8_count 40 = .ok (.aload_n 0, 1) := by decide +kernel
theorem dX8_count_41 : decode cX8_count 41 = .ok (.getfield 10, 3) := by decide +kernel
theorem dX8_count_44 : decode cX8_count 44 = .ok (.getfield 216, 3) := by decide +kernel
theorem dX8_count_47 : decode cX8_count 47 = .ok (.ireturn, 1) := by decide +kernel
theorem dX8_count_48 : decode cX8_count 48 = .ok (.aload_n 0, 1) := by decide +kernel
theorem dX8_count_49 : decode cX8_count 49 = .ok (.getfield 10, 3) := by decide +kernel
theorem dX8_count_52 : decode cX8_count 52 = .ok (.getfield 227, 3) := by decide +kernel
theorem dX8_count_55 : decode cX8_count 55 = .ok (.ireturn, 1) := by decide +kernel
theorem dX8_count_56 : decode cX8_count 56 = .ok (.aload_n 0, 1) := by decide +kernel
theorem dX8_count_57 : decode cX8_count 57 = .ok (.getfield 40, 3) := by decide +kernel
theorem dX8_count_60 : decode cX8_count 60 = .ok (.getfield 304, 3) := by decide +kernel
theorem dX8_count_63 : decode cX8_count 63 = .ok (.ireturn, 1) := by decide +kernel
theorem dX8_count_64 : decode cX8_count 64 = .ok (.aload_n 0, 1) := by decide +kernel
theorem dX8_count_65 : decode cX8_count 65 = .ok (.getfield 69, 3) := by decide +kernel
theorem dX8_count_68 : decode cX8_count 68 = .ok (.ireturn, 1) := by decide +kernel
theorem dX8_count_69 : decode cX8_count 69 = .ok (.aload_n 0, 1) := by decide +kernel
theorem dX8_count_70 : decode cX8_count 70 = .ok (.getfield 10, 3) := by decide +kernel
theorem dX8_count_73 : decode cX8_count 73 = .ok (.invokevirtual 305, 3) := by decide +kernel
theorem dX8_count_76 : decode cX8_count 76 = .ok (.ireturn, 1) := by decide +kernel
theorem dX8_count_77 : decode cX8_count 77 = .ok (.aload_n 0, 1) := by decide +kernel
theorem dX8_count_78 : decode cX8_count 78 = .ok (.getfield 10, 3) := by decide +kernel
theorem dX8_count_81 : decode cX8_count 81 = .ok (.invokevirtual 308, 3) := by decide +kernel
theorem dX8_count_84 : decode cX8_count 84 = .ok (.ireturn, 1) := by decide +kernel
theorem dX8_count_85 : decode cX8_count 85 = .ok (.iload_n 1, 1) := by decide +kernel
theorem dX8_count_86 : decode cX8_count 86 = .ok (.bipush 11, 2) := by decide +kernel
theorem dX8_count_88 : decode cX8_count 88 = .ok (.if_icmp .lt 21, 3) := by decide +kernel
theorem dX8_count_91 : decode cX8_count 91 = .ok (.iload_n 1, 1) := by decide +kernel
theorem dX8_count_92 : decode cX8_count 92 = .ok (.bipush 16, 2) := by decide +kernel
theorem dX8_count_94 : decode cX8_count 94 = .ok (.if_icmp .gt 15, 3) := by decide +kernel
theorem dX8_count_97 : decode cX8_count 97 = .ok (.aload_n 0, 1) := by decide +kernel
theorem dX8_count_98 : decode cX8_count 98 = .ok (.getfield 87, 3) := by decide +kernel
theorem dX8_count_101 : decode cX8_count 101 = .ok (.iload_n 1, 1) := by decide +kernel
theorem dX8_count_102 : decode cX8_count 102 = .ok (.bipush 10, 2) := by decide +kernel
theorem dX8_count_104 : decode cX8_count 104 = .ok (.isub, 1) := by decide +kernel
theorem dX8_count_105 : decode cX8_count 105 = .ok (.iaload, 1) := by decide +kernel
theorem dX8_count_106 : decode cX8_count 106 = .ok (.goto 5, 3) := by decide +kernel
theorem dX8_count_109 : decode cX8_count 109 = .ok (.bipush (-9), 2) := by decide +kernel
theorem dX8_count_111 : decode cX8_count 111 = .ok (.ireturn, 1) := by decide +kernel
theorem dX8_counted_0 : decode cX8_counted 0 = .ok (.iload_n 1, 1) := by decide +kernel
theorem dX8_counted_1 : decode cX8_counted 1 = .ok (.ifCond .ge 20, 3) := by decide +kernel
theorem dX8_counted_4 : decode cX8_counted 4 = .ok (.iload_n 1, 1) := by decide +kernel
theorem dX8_counted_5 : decode cX8_counted 5 = .ok (.bipush (-6), 2) := by decide +kernel
theorem dX8_counted_7 : decode cX8_counted 7 = .ok (.if_icmp .lt 14, 3) := by decide +kernel
theorem dX8_counted_10 : decode cX8_counted 10 = .ok (.aload_n 0, 1) := by decide +kernel
theorem dX8_counted_11 : decode cX8_counted 11 = .ok (.getfield 87, 3) := by decide +kernel
theorem dX8_counted_14 : decode cX8_counted 14 = .ok (.iload_n 1, 1) := by decide +kernel
theorem dX8_counted_15 : decode cX8_counted 15 = .ok (.ineg, 1) := by decide +kernel
theorem dX8_counted_16 : decode cX8_counted 16 = .ok (.dup2, 1) := by decide +kernel
theorem dX8_counted_17 : decode cX8_counted 17 = .ok (.iaload, 1) := by decide +kernel
theorem dX8_counted_18 : decode cX8_counted 18 = .ok (.iconst 1, 1) := by decide +kernel
theorem dX8_counted_19 : decode cX8_counted 19 = .ok (.iadd, 1) := by decide +kernel
theorem dX8_counted_20 : decode cX8_counted 20 = .ok (.iastore, 1) := by decide +kernel
theorem dX8_counted_21 : decode cX8_counted 21 = .ok (.iload_n 1, 1) := by decide +kernel
theorem dX8_counted_22 : decode cX8_counted 22 = .ok (.ireturn, 1) := by decide +kernel
theorem dX8_refused_0 : decode cX8_refused 0 = .ok (.ldc2_w 311, 3) := by decide +kernel
theorem dX8_refused_3 : decode cX8_refused 3 = .ok (.aload_n 0, 1) := by decide +kernel
theorem dX8_refused_4 : decode cX8_refused 4 = .ok (.iload_n 1, 1) := by decide +kernel
theorem dX8_refused_5 : decode cX8_refused 5 = .ok (.invokevirtual 94, 3) := by decide +kernel
theorem dX8_refused_8 : decode cX8_refused 8 = .ok (.i2l, 1) := by decide +kernel
theorem dX8_refused_9 : decode cX8_refused 9 = .ok (.lsub, 1) := by decide +kernel
theorem dX8_refused_10 : decode cX8_refused 10 = .ok (.lreturn, 1) := by decide +kernel
theorem dX8_areTwoPoints_0 : decode cX8_areTwoPoints 0 = .ok (.aload_n 0, 1) := by decide +kernel
theorem dX8_areTwoPoints_1 : decode cX8_areTwoPoints 1 = .ok (.getfield 10, 3) := by decide +kernel
theorem dX8_areTwoPoints_4 : decode cX8_areTwoPoints 4 = .ok (.iload_n 1, 1) := by decide +kernel
theorem dX8_areTwoPoints_5 : decode cX8_areTwoPoints 5 = .ok (.invokevirtual 154, 3) := by decide +kernel
theorem dX8_areTwoPoints_8 : decode cX8_areTwoPoints 8 = .ok (.ifCond .eq 23, 3) := by decide +kernel
theorem dX8_areTwoPoints_11 : decode cX8_areTwoPoints 11 = .ok (.aload_n 0, 1) := by decide +kernel
theorem dX8_areTwoPoints_12 : decode cX8_areTwoPoints 12 = .ok (.getfield 10, 3) := by decide +kernel
theorem dX8_areTwoPoints_15 : decode cX8_areTwoPoints 15 = .ok (.iload_n 2, 1) := by decide +kernel
theorem dX8_areTwoPoints_16 : decode cX8_areTwoPoints 16 = .ok (.invokevirtual 154, 3) := by decide +kernel
theorem dX8_areTwoPoints_19 : decode cX8_areTwoPoints 19 = .ok (.ifCond .eq 12, 3) := by decide +kernel
theorem dX8_areTwoPoints_22 : decode cX8_areTwoPoints 22 = .ok (.iload_n 1, 1) := by decide +kernel
theorem dX8_areTwoPoints_23 : decode cX8_areTwoPoints 23 = .ok (.iload_n 2, 1) := by decide +kernel
theorem dX8_areTwoPoints_24 : decode cX8_areTwoPoints 24 = .ok (.if_icmp .eq 7, 3) := by decide +kernel
theorem dX8_areTwoPoints_27 : decode cX8_areTwoPoints 27 = .ok (.iconst 1, 1) := by decide +kernel
theorem dX8_areTwoPoints_28 : decode cX8_areTwoPoints 28 = .ok (.goto 4, 3) := by decide +kernel
theorem dX8_areTwoPoints_31 : decode cX8_areTwoPoints 31 = .ok (.iconst 0, 1) := by decide +kernel
theorem dX8_areTwoPoints_32 : decode cX8_areTwoPoints 32 = .ok (.ireturn, 1) := by decide +kernel
theorem dX8_refusalOfJourney_0 : decode cX8_refusalOfJourney 0 = .ok (.aload_n 0, 1) := by decide +kernel
theorem dX8_refusalOfJourney_1 : decode cX8_refusalOfJourney 1 = .ok (.getfield 10, 3) := by decide +kernel
theorem dX8_refusalOfJourney_4 : decode cX8_refusalOfJourney 4 = .ok (.iload_n 1, 1) := by decide +kernel
theorem dX8_refusalOfJourney_5 : decode cX8_refusalOfJourney 5 = .ok (.invokevirtual 154, 3) := by decide +kernel
theorem dX8_refusalOfJourney_8 : decode cX8_refusalOfJourney 8 = .ok (.ifCond .eq 14, 3) := by decide +kernel
theorem dX8_refusalOfJourney_11 : decode cX8_refusalOfJourney 11 = .ok (.aload_n 0, 1) := by decide +kernel
theorem dX8_refusalOfJourney_12 : decode cX8_refusalOfJourney 12 = .ok (.getfield 10, 3) := by decide +kernel
theorem dX8_refusalOfJourney_15 : decode cX8_refusalOfJourney 15 = .ok (.iload_n 2, 1) := by decide +kernel
theorem dX8_refusalOfJourney_16 : decode cX8_refusalOfJourney 16 = .ok (.invokevirtual 154, 3) := by decide +kernel
theorem dX8_refusalOfJourney_19 : decode cX8_refusalOfJourney 19 = .ok (.ifCond .ne 5, 3) := by decide +kernel
theorem dX8_refusalOfJourney_22 : decode cX8_refusalOfJourney 22 = .ok (.iconst (-1), 1) := by decide +kernel
theorem dX8_refusalOfJourney_23 : decode cX8_refusalOfJourney 23 = .ok (.ireturn, 1) := by decide +kernel
theorem dX8_refusalOfJourney_24 : decode cX8_refusalOfJourney 24 = .ok (.iload_n 3, 1) := by decide +kernel
theorem dX8_refusalOfJourney_25 : decode cX8_refusalOfJourney 25 = .ok (.invokestatic 313, 3) := by decide +kernel
theorem dX8_refusalOfJourney_28 : decode cX8_refusalOfJourney 28 = .ok (.ifCond .ne 6, 3) := by decide +kernel
theorem dX8_refusalOfJourney_31 : decode cX8_refusalOfJourney 31 = .ok (.bipush (-2), 2) := by decide +kernel
theorem dX8_refusalOfJourney_33 : decode cX8_refusalOfJourney 33 = .ok (.ireturn, 1) := by decide +kernel
theorem dX8_refusalOfJourney_34 : decode cX8_refusalOfJourney 34 = .ok (.aload_n 0, 1) := by decide +kernel
theorem dX8_refusalOfJourney_35 : decode cX8_refusalOfJourney 35 = .ok (.getfield 10, 3) := by decide +kernel
theorem dX8_refusalOfJourney_38 : decode cX8_refusalOfJourney 38 = .ok (.iconst 1, 1) := by decide +kernel
theorem dX8_refusalOfJourney_39 : decode cX8_refusalOfJourney 39 = .ok (.iload_n 1, 1) := by decide +kernel
theorem dX8_refusalOfJourney_40 : decode cX8_refusalOfJourney 40 = .ok (.ishl, 1) := by decide +kernel
theorem dX8_refusalOfJourney_41 : decode cX8_refusalOfJourney 41 = .ok (.aload_n 0, 1) := by decide +kernel
theorem dX8_refusalOfJourney_42 : decode cX8_refusalOfJourney 42 = .ok (.getfield 10, 3) := by decide +kernel
theorem dX8_refusalOfJourney_45 : decode cX8_refusalOfJourney 45 = .ok (.invokevirtual 157, 3) := by decide +kernel
theorem dX8_refusalOfJourney_48 : decode cX8_refusalOfJourney 48 = .ok (.invokevirtual 161, 3) := by decide +kernel
theorem dX8_refusalOfJourney_51 : decode cX8_refusalOfJourney 51 = .ok (.iload_n 2, 1) := by decide +kernel
theorem dX8_refusalOfJourney_52 : decode cX8_refusalOfJourney 52 = .ok (.invokestatic 203, 3) := by decide +kernel
theorem dX8_refusalOfJourney_55 : decode cX8_refusalOfJourney 55 = .ok (.ifCond .eq 7, 3) := by decide +kernel
theorem dX8_refusalOfJourney_58 : decode cX8_refusalOfJourney 58 = .ok (.iconst 0, 1) := by decide +kernel
theorem dX8_refusalOfJourney_59 : decode cX8_refusalOfJourney 59 = .ok (.goto 5, 3) := by decide +kernel
theorem dX8_refusalOfJourney_62 : decode cX8_refusalOfJourney 62 = .ok (.bipush (-3), 2) := by decide +kernel
theorem dX8_refusalOfJourney_64 : decode cX8_refusalOfJourney 64 = .ok (.ireturn, 1) := by decide +kernel
theorem dX8_refusalOfGoals_0 : decode cX8_refusalOfGoals 0 = .ok (.aload_n 0, 1) := by decide +kernel
theorem dX8_refusalOfGoals_1 : decode cX8_refusalOfGoals 1 = .ok (.getfield 10, 3) := by decide +kernel
theorem dX8_refusalOfGoals_4 : decode cX8_refusalOfGoals 4 = .ok (.iload_n 1, 1) := by decide +kernel
theorem dX8_refusalOfGoals_5 : decode cX8_refusalOfGoals 5 = .ok (.invokevirtual 154, 3) := by decide +kernel
theorem dX8_refusalOfGoals_8 : decode cX8_refusalOfGoals 8 = .ok (.ifCond .eq 14, 3) := by decide +kernel
theorem dX8_refusalOfGoals_11 : decode cX8_refusalOfGoals 11 = .ok (.aload_n 0, 1) := by decide +kernel
theorem dX8_refusalOfGoals_12 : decode cX8_refusalOfGoals 12 = .ok (.getfield 10, 3) := by decide +kernel
theorem dX8_refusalOfGoals_15 : decode cX8_refusalOfGoals 15 = .ok (.iload_n 3, 1) := by decide +kernel
theorem dX8_refusalOfGoals_16 : decode cX8_refusalOfGoals 16 = .ok (.invokevirtual 154, 3) := by decide +kernel
theorem dX8_refusalOfGoals_19 : decode cX8_refusalOfGoals 19 = .ok (.ifCond .ne 5, 3) := by decide +kernel
theorem dX8_refusalOfGoals_22 : decode cX8_refusalOfGoals 22 = .ok (.iconst (-1), 1) := by decide +kernel
theorem dX8_refusalOfGoals_23 : decode cX8_refusalOfGoals 23 = .ok (.ireturn, 1) := by decide +kernel
theorem dX8_refusalOfGoals_24 : decode cX8_refusalOfGoals 24 = .ok (.iload_n 2, 1) := by decide +kernel
theorem dX8_refusalOfGoals_25 : decode cX8_refusalOfGoals 25 = .ok (.iconst 0, 1) := by decide +kernel
theorem dX8_refusalOfGoals_26 : decode cX8_refusalOfGoals 26 = .ok (.aload_n 0, 1) := by decide +kernel
theorem dX8_refusalOfGoals_27 : decode cX8_refusalOfGoals 27 = .ok (.getfield 10, 3) := by decide +kernel
theorem dX8_refusalOfGoals_30 : decode cX8_refusalOfGoals 30 = .ok (.invokevirtual 230, 3) := by decide +kernel
theorem dX8_refusalOfGoals_33 : decode cX8_refusalOfGoals 33 = .ok (.invokestatic 241, 3) := by decide +kernel
theorem dX8_refusalOfGoals_36 : decode cX8_refusalOfGoals 36 = .ok (.istore 5, 2) := by decide +kernel
theorem dX8_refusalOfGoals_38 : decode cX8_refusalOfGoals 38 = .ok (.iload 5, 2) := by decide +kernel
theorem dX8_refusalOfGoals_40 : decode cX8_refusalOfGoals 40 = .ok (.ifCond .eq 6, 3) := by decide +kernel
theorem dX8_refusalOfGoals_43 : decode cX8_refusalOfGoals 43 = .ok (.iload 5, 2) := by decide +kernel
theorem dX8_refusalOfGoals_45 : decode cX8_refusalOfGoals 45 = .ok (.ireturn, 1) := by decide +kernel
theorem dX8_refusalOfGoals_46 : decode cX8_refusalOfGoals 46 = .ok (.iload 4, 2) := by decide +kernel
theorem dX8_refusalOfGoals_48 : decode cX8_refusalOfGoals 48 = .ok (.invokestatic 313, 3) := by decide +kernel
theorem dX8_refusalOfGoals_51 : decode cX8_refusalOfGoals 51 = .ok (.ifCond .ne 6, 3) := by decide +kernel
theorem dX8_refusalOfGoals_54 : decode cX8_refusalOfGoals 54 = .ok (.bipush (-2), 2) := by decide +kernel
theorem dX8_refusalOfGoals_56 : decode cX8_refusalOfGoals 56 = .ok (.ireturn, 1) := by decide +kernel
theorem dX8_refusalOfGoals_57 : decode cX8_refusalOfGoals 57 = .ok (.iload_n 2, 1) := by decide +kernel
theorem dX8_refusalOfGoals_58 : decode cX8_refusalOfGoals 58 = .ok (.iload_n 3, 1) := by decide +kernel
theorem dX8_refusalOfGoals_59 : decode cX8_refusalOfGoals 59 = .ok (.invokestatic 203, 3) := by decide +kernel
theorem dX8_refusalOfGoals_62 : decode cX8_refusalOfGoals 62 = .ok (.ifCond .eq 29, 3) := by decide +kernel
theorem dX8_refusalOfGoals_65 : decode cX8_refusalOfGoals 65 = .ok (.aload_n 0, 1) := by decide +kernel
theorem dX8_refusalOfGoals_66 : decode cX8_refusalOfGoals 66 = .ok (.getfield 10, 3) := by decide +kernel
theorem dX8_refusalOfGoals_69 : decode cX8_refusalOfGoals 69 = .ok (.iconst 1, 1) := by decide +kernel
theorem dX8_refusalOfGoals_70 : decode cX8_refusalOfGoals 70 = .ok (.iload_n 1, 1) := by decide +kernel
theorem dX8_refusalOfGoals_71 : decode cX8_refusalOfGoals 71 = .ok (.ishl, 1) := by decide +kernel
theorem dX8_refusalOfGoals_72 : decode cX8_refusalOfGoals 72 = .ok (.aload_n 0, 1) := by decide +kernel
theorem dX8_refusalOfGoals_73 : decode cX8_refusalOfGoals 73 = .ok (.getfield 10, 3) := by decide +kernel
theorem dX8_refusalOfGoals_76 : decode cX8_refusalOfGoals 76 = .ok (.invokevirtual 157, 3) := by decide +kernel
theorem dX8_refusalOfGoals_79 : decode cX8_refusalOfGoals 79 = .ok (.invokevirtual 161, 3) := by decide +kernel
theorem dX8_refusalOfGoals_82 : decode cX8_refusalOfGoals 82 = .ok (.iload_n 2, 1) := by decide +kernel
theorem dX8_refusalOfGoals_83 : decode cX8_refusalOfGoals 83 = .ok (.iand, 1) := by decide +kernel
theorem dX8_refusalOfGoals_84 : decode cX8_refusalOfGoals 84 = .ok (.ifCond .eq 7, 3) := by decide +kernel
theorem dX8_refusalOfGoals_87 : decode cX8_refusalOfGoals 87 = .ok (.iconst 0, 1) := by decide +kernel
theorem dX8_refusalOfGoals_88 : decode cX8_refusalOfGoals 88 = .ok (.goto 5, 3) := by decide +kernel
theorem dX8_refusalOfGoals_91 : decode cX8_refusalOfGoals 91 = .ok (.bipush (-3), 2) := by decide +kernel
theorem dX8_refusalOfGoals_93 : decode cX8_refusalOfGoals 93 = .ok (.ireturn, 1) := by decide +kernel
theorem dX8_refusalOfUnsure_0 : decode cX8_refusalOfUnsure 0 = .ok (.aload_n 0, 1) := by decide +kernel
theorem dX8_refusalOfUnsure_1 : decode cX8_refusalOfUnsure 1 = .ok (.getfield 10, 3) := by decide +kernel
theorem dX8_refusalOfUnsure_4 : decode cX8_refusalOfUnsure 4 = .ok (.iload_n 1, 1) := by decide +kernel
theorem dX8_refusalOfUnsure_5 : decode cX8_refusalOfUnsure 5 = .ok (.invokevirtual 154, 3) := by decide +kernel
theorem dX8_refusalOfUnsure_8 : decode cX8_refusalOfUnsure 8 = .ok (.ifCond .eq 14, 3) := by decide +kernel
theorem dX8_refusalOfUnsure_11 : decode cX8_refusalOfUnsure 11 = .ok (.aload_n 0, 1) := by decide +kernel
theorem dX8_refusalOfUnsure_12 : decode cX8_refusalOfUnsure 12 = .ok (.getfield 10, 3) := by decide +kernel
theorem dX8_refusalOfUnsure_15 : decode cX8_refusalOfUnsure 15 = .ok (.iload_n 2, 1) := by decide +kernel
theorem dX8_refusalOfUnsure_16 : decode cX8_refusalOfUnsure 16 = .ok (.invokevirtual 154, 3) := by decide +kernel
theorem dX8_refusalOfUnsure_19 : decode cX8_refusalOfUnsure 19 = .ok (.ifCond .ne 5, 3) := by decide +kernel
theorem dX8_refusalOfUnsure_22 : decode cX8_refusalOfUnsure 22 = .ok (.iconst (-1), 1) := by decide +kernel
theorem dX8_refusalOfUnsure_23 : decode cX8_refusalOfUnsure 23 = .ok (.ireturn, 1) := by decide +kernel
theorem dX8_refusalOfUnsure_24 : decode cX8_refusalOfUnsure 24 = .ok (.iload_n 3, 1) := by decide +kernel
theorem dX8_refusalOfUnsure_25 : decode cX8_refusalOfUnsure 25 = .ok (.iconst 2, 1) := by decide +kernel
theorem dX8_refusalOfUnsure_26 : decode cX8_refusalOfUnsure 26 = .ok (.if_icmp .lt 8, 3) := by decide +kernel
theorem dX8_refusalOfUnsure_29 : decode cX8_refusalOfUnsure 29 = .ok (.iload 4, 2) := by decide +kernel
theorem dX8_refusalOfUnsure_31 : decode cX8_refusalOfUnsure 31 = .ok (.ifCond .ge 6, 3) := by decide +kernel
theorem dX8_refusalOfUnsure_34 : decode cX8_refusalOfUnsure 34 = .ok (.bipush (-4), 2) := by decide +kernel
theorem dX8_refusalOfUnsure_36 : decode cX8_refusalOfUnsure 36 = .ok (.ireturn, 1) := by decide +kernel
theorem dX8_refusalOfUnsure_37 : decode cX8_refusalOfUnsure 37 = .ok (.iload_n 3, 1) := by decide +kernel
theorem dX8_refusalOfUnsure_38 : decode cX8_refusalOfUnsure 38 = .ok (.bipush 20, 2) := by decide +kernel
theorem dX8_refusalOfUnsure_40 : decode cX8_refusalOfUnsure 40 = .ok (.if_icmp .gt 11, 3) := by decide +kernel
theorem dX8_refusalOfUnsure_43 : decode cX8_refusalOfUnsure 43 = .ok (.iload 4, 2) := by decide +kernel
theorem dX8_refusalOfUnsure_45 : decode cX8_refusalOfUnsure 45 = .ok (.sipush 999, 3) := by decide +kernel
theorem dX8_refusalOfUnsure_48 : decode cX8_refusalOfUnsure 48 = .ok (.if_icmp .le 6, 3) := by decide +kernel
theorem dX8_refusalOfUnsure_51 : decode cX8_refusalOfUnsure 51 = .ok (.bipush (-6), 2) := by decide +kernel
theorem dX8_refusalOfUnsure_53 : decode cX8_refusalOfUnsure 53 = .ok (.ireturn, 1) := by decide +kernel
theorem dX8_refusalOfUnsure_54 : decode cX8_refusalOfUnsure 54 = .ok (.iload 5, 2) := by decide +kernel
theorem dX8_refusalOfUnsure_56 : decode cX8_refusalOfUnsure 56 = .ok (.invokestatic 313, 3) := by decide +kernel
theorem dX8_refusalOfUnsure_59 : decode cX8_refusalOfUnsure 59 = .ok (.ifCond .eq 7, 3) := by decide +kernel
theorem dX8_refusalOfUnsure_62 : decode cX8_refusalOfUnsure 62 = .ok (.iconst 0, 1) := by decide +kernel
theorem dX8_refusalOfUnsure_63 : decode cX8_refusalOfUnsure 63 = .ok (.goto 5, 3) := by decide +kernel
theorem dX8_refusalOfUnsure_66 : decode cX8_refusalOfUnsure 66 = .ok (.bipush (-2), 2) := by decide +kernel
theorem dX8_refusalOfUnsure_68 : decode cX8_refusalOfUnsure 68 = .ok (.ireturn, 1) := by decide +kernel
theorem dX8_refusalOfNumber_0 : decode cX8_refusalOfNumber 0 = .ok (.iload_n 0, 1) := by decide +kernel
theorem dX8_refusalOfNumber_1 : decode cX8_refusalOfNumber 1 = .ok (.iload_n 1, 1) := by decide +kernel
theorem dX8_refusalOfNumber_2 : decode cX8_refusalOfNumber 2 = .ok (.if_icmp .ge 6, 3) := by decide +kernel
theorem dX8_refusalOfNumber_5 : decode cX8_refusalOfNumber 5 = .ok (.bipush (-4), 2) := by decide +kernel
theorem dX8_refusalOfNumber_7 : decode cX8_refusalOfNumber 7 = .ok (.ireturn, 1) := by decide +kernel
theorem dX8_refusalOfNumber_8 : decode cX8_refusalOfNumber 8 = .ok (.iload_n 0, 1) := by decide +kernel
theorem dX8_refusalOfNumber_9 : decode cX8_refusalOfNumber 9 = .ok (.iload_n 2, 1) := by decide +kernel
theorem dX8_refusalOfNumber_10 : decode cX8_refusalOfNumber 10 = .ok (.if_icmp .le 8, 3) := by decide +kernel
theorem dX8_refusalOfNumber_13 : decode cX8_refusalOfNumber 13 = .ok (.bipush (-6), 2) := by decide +kernel
theorem dX8_refusalOfNumber_15 : decode cX8_refusalOfNumber 15 = .ok (.goto 4, 3) := by decide +kernel
theorem dX8_refusalOfNumber_18 : decode cX8_refusalOfNumber 18 = .ok (.iconst 0, 1) := by decide +kernel
theorem dX8_refusalOfNumber_19 : decode cX8_refusalOfNumber 19 = .ok (.ireturn, 1) := by decide +kernel
theorem dX8_isPart_0 : decode cX8_isPart 0 = .ok (.iload_n 0, 1) := by decide +kernel
theorem dX8_isPart_1 : decode cX8_isPart 1 = .ok (.ifCond .eq 8, 3) := by decide +kernel
theorem dX8_isPart_4 : decode cX8_isPart 4 = .ok (.iload_n 0, 1) := by decide +kernel
theorem dX8_isPart_5 : decode cX8_isPart 5 = .ok (.iconst 1, 1) := by decide +kernel
theorem dX8_isPart_6 : decode cX8_isPart 6 = .ok (.if_icmp .ne 7, 3) := by decide +kernel
theorem dX8_isPart_9 : decode cX8_isPart 9 = .ok (.iconst 1, 1) := by decide +kernel
theorem dX8_isPart_10 : decode cX8_isPart 10 = .ok (.goto 4, 3) := by decide +kernel
theorem dX8_isPart_13 : decode cX8_isPart 13 = .ok (.iconst 0, 1) := by decide +kernel
theorem dX8_isPart_14 : decode cX8_isPart 14 = .ok (.ireturn, 1) := by decide +kernel
theorem dX8_commuteAbove_0 : decode cX8_commuteAbove 0 = .ok (.aload_n 0, 1) := by decide +kernel
theorem dX8_commuteAbove_1 : decode cX8_commuteAbove 1 = .ok (.getfield 29, 3) := by decide +kernel
theorem dX8_commuteAbove_4 : decode cX8_commuteAbove 4 = .ok (.aload_n 0, 1) := by decide +kernel
theorem dX8_commuteAbove_5 : decode cX8_commuteAbove 5 = .ok (.getfield 10, 3) := by decide +kernel
theorem dX8_commuteAbove_8 : decode cX8_commuteAbove 8 = .ok (.aload_n 0, 1) := by decide +kernel
theorem dX8_commuteAbove_9 : decode cX8_commuteAbove 9 = .ok (.getfield 10, 3) := by decide +kernel
theorem dX8_commuteAbove_12 : decode cX8_commuteAbove 12 = .ok (.invokevirtual 157, 3) := by decide +kernel
theorem dX8_commuteAbove_15 : decode cX8_commuteAbove 15 = .ok (.iload_n 2, 1) := by decide +kernel
theorem dX8_commuteAbove_16 : decode cX8_commuteAbove 16 = .ok (.invokevirtual 171, 3) := by decide +kernel
theorem dX8_commuteAbove_19 : decode cX8_commuteAbove 19 = .ok (.aload_n 0, 1) := by decide +kernel
theorem dX8_commuteAbove_20 : decode cX8_commuteAbove 20 = .ok (.getfield 29, 3) := by decide +kernel
theorem dX8_commuteAbove_23 : decode cX8_commuteAbove 23 = .ok (.getfield 175, 3) := by decide +kernel
theorem dX8_commuteAbove_26 : decode cX8_commuteAbove 26 = .ok (.iload_n 1, 1) := by decide +kernel
theorem dX8_commuteAbove_27 : decode cX8_commuteAbove 27 = .ok (.laload, 1) := by decide +kernel
theorem dX8_commuteAbove_28 : decode cX8_commuteAbove 28 = .ok (.lstore_n 3, 1) := by decide +kernel
theorem dX8_commuteAbove_29 : decode cX8_commuteAbove 29 = .ok (.aload_n 0, 1) := by decide +kernel
theorem dX8_commuteAbove_30 : decode cX8_commuteAbove 30 = .ok (.getfield 29, 3) := by decide +kernel
theorem dX8_commuteAbove_33 : decode cX8_commuteAbove 33 = .ok (.aload_n 0, 1) := by decide +kernel
theorem dX8_commuteAbove_34 : decode cX8_commuteAbove 34 = .ok (.getfield 10, 3) := by decide +kernel
theorem dX8_commuteAbove_37 : decode cX8_commuteAbove 37 = .ok (.aload_n 0, 1) := by decide +kernel
theorem dX8_commuteAbove_38 : decode cX8_commuteAbove 38 = .ok (.getfield 10, 3) := by decide +kernel
theorem dX8_commuteAbove_41 : decode cX8_commuteAbove 41 = .ok (.invokevirtual 157, 3) := by decide +kernel
theorem dX8_commuteAbove_44 : decode cX8_commuteAbove 44 = .ok (.iload_n 1, 1) := by decide +kernel
theorem dX8_commuteAbove_45 : decode cX8_commuteAbove 45 = .ok (.invokevirtual 171, 3) := by decide +kernel
theorem dX8_commuteAbove_48 : decode cX8_commuteAbove 48 = .ok (.lload_n 3, 1) := by decide +kernel
theorem dX8_commuteAbove_49 : decode cX8_commuteAbove 49 = .ok (.aload_n 0, 1) := by decide +kernel
theorem dX8_commuteAbove_50 : decode cX8_commuteAbove 50 = .ok (.getfield 29, 3) := by decide +kernel
theorem dX8_commuteAbove_53 : decode cX8_commuteAbove 53 = .ok (.getfield 175, 3) := by decide +kernel
theorem dX8_commuteAbove_56 : decode cX8_commuteAbove 56 = .ok (.iload_n 2, 1) := by decide +kernel
theorem dX8_commuteAbove_57 : decode cX8_commuteAbove 57 = .ok (.laload, 1) := by decide +kernel
theorem dX8_commuteAbove_58 : decode cX8_commuteAbove 58 = .ok (.ladd, 1) := by decide +kernel
theorem dX8_commuteAbove_59 : decode cX8_commuteAbove 59 = .ok (.lreturn, 1) := by decide +kernel
theorem dX8_likely_0 : decode cX8_likely 0 = .ok (.aload_n 0, 1) := by decide +kernel
theorem dX8_likely_1 : decode cX8_likely 1 = .ok (.getfield 10, 3) := by decide +kernel
theorem dX8_likely_4 : decode cX8_likely 4 = .ok (.getfield 227, 3) := by decide +kernel
theorem dX8_likely_7 : decode cX8_likely 7 = .ok (.bipush 6, 2) := by decide +kernel
theorem dX8_likely_9 : decode cX8_likely 9 = .ok (.invokestatic 316, 3) := by decide +kernel
theorem dX8_likely_12 : decode cX8_likely 12 = .ok (.istore 6, 2) := by decide +kernel
theorem dX8_likely_14 : decode cX8_likely 14 = .ok (.lconst 0, 1) := by decide +kernel
theorem dX8_likely_15 : decode cX8_likely 15 = .ok (.lstore 7, 2) := by decide +kernel
theorem dX8_likely_17 : decode cX8_likely 17 = .ok (.iconst 0, 1) := by decide +kernel
theorem dX8_likely_18 : decode cX8_likely 18 = .ok (.istore 9, 2) := by decide +kernel
theorem dX8_likely_20 : decode cX8_likely 20 = .ok (.iload 9, 2) := by decide +kernel
theorem dX8_likely_22 : decode cX8_likely 22 = .ok (.iconst 1, 1) := by decide +kernel
theorem dX8_likely_23 : decode cX8_likely 23 = .ok (.iload 6, 2) := by decide +kernel
theorem dX8_likely_25 : decode cX8_likely 25 = .ok (.ishl, 1) := by decide +kernel
theorem dX8_likely_26 : decode cX8_likely 26 = .ok (.if_icmp .ge 56, 3) := by decide +kernel
theorem dX8_likely_29 : decode cX8_likely 29 = .ok (.aload_n 0, 1) := by decide +kernel
theorem dX8_likely_30 : decode cX8_likely 30 = .ok (.getfield 10, 3) := by decide +kernel
theorem dX8_likely_33 : decode cX8_likely 33 = .ok (.invokevirtual 157, 3) := by decide +kernel
theorem dX8_likely_36 : decode cX8_likely 36 = .ok (.iload 9, 2) := by decide +kernel
theorem dX8_likely_38 : decode cX8_likely 38 = .ok (.iconst (-1), 1) := by decide +kernel
theorem dX8_likely_39 : decode cX8_likely 39 = .ok (.ixor, 1) := by decide +kernel
theorem dX8_likely_40 : decode cX8_likely 40 = .ok (.iand, 1) := by decide +kernel
theorem dX8_likely_41 : decode cX8_likely 41 = .ok (.istore 10, 2) := by decide +kernel
theorem dX8_likely_43 : decode cX8_likely 43 = .ok (.aload_n 0, 1) := by decide +kernel
theorem dX8_likely_44 : decode cX8_likely 44 = .ok (.iload_n 1, 1) := by decide +kernel
theorem dX8_likely_45 : decode cX8_likely 45 = .ok (.iload_n 2, 1) := by decide +kernel
theorem dX8_likely_46 : decode cX8_likely 46 = .ok (.iload 4, 2) := by decide +kernel
theorem dX8_likely_48 : decode cX8_likely 48 = .ok (.iload 10, 2) := by decide +kernel
theorem dX8_likely_50 : decode cX8_likely 50 = .ok (.invokevirtual 321, 3) := by decide +kernel
theorem dX8_likely_53 : decode cX8_likely 53 = .ok (.ifCond .eq 23, 3) := by decide +kernel
theorem dX8_likely_56 : decode cX8_likely 56 = .ok (.lload 7, 2) := by decide +kernel
theorem dX8_likely_58 : decode cX8_likely 58 = .ok (.iload_n 3, 1) := by decide +kernel
theorem dX8_likely_59 : decode cX8_likely 59 = .ok (.iconst 1, 1) := by decide +kernel
theorem dX8_likely_60 : decode cX8_likely 60 = .ok (.isub, 1) := by decide +kernel
theorem dX8_likely_61 : decode cX8_likely 61 = .ok (.i2l, 1) := by decide +kernel
theorem dX8_likely_62 : decode cX8_likely 62 = .ok (.iload 6, 2) := by decide +kernel
theorem dX8_likely_64 : decode cX8_likely 64 = .ok (.iload 9, 2) := by decide +kernel
theorem dX8_likely_66 : decode cX8_likely 66 = .ok (.invokestatic 325, 3) := by decide +kernel
theorem dX8_likely_69 : decode cX8_likely 69 = .ok (.isub, 1) := by decide +kernel
theorem dX8_likely_70 : decode cX8_likely 70 = .ok (.invokestatic 330, 3) := by decide +kernel
theorem dX8_likely_73 : decode cX8_likely 73 = .ok (.ladd, 1) := by decide +kernel
theorem dX8_likely_74 : decode cX8_likely 74 = .ok (.lstore 7, 2) := by decide +kernel
theorem dX8_likely_76 : decode cX8_likely 76 = .ok (.iinc 9 1, 3) := by decide +kernel
theorem dX8_likely_79 : decode cX8_likely 79 = .ok (.goto (-59), 3) := by decide +kernel
theorem dX8_likely_82 : decode cX8_likely 82 = .ok (.lload 7, 2) := by decide +kernel
theorem dX8_likely_84 : decode cX8_likely 84 = .ok (.iload_n 3, 1) := by decide +kernel
theorem dX8_likely_85 : decode cX8_likely 85 = .ok (.i2l, 1) := by decide +kernel
theorem dX8_likely_86 : decode cX8_likely 86 = .ok (.iload 6, 2) := by decide +kernel
theorem dX8_likely_88 : decode cX8_likely 88 = .ok (.invokestatic 330, 3) := by decide +kernel
theorem dX8_likely_91 : decode cX8_likely 91 = .ok (.iload 5, 2) := by decide +kernel
theorem dX8_likely_93 : decode cX8_likely 93 = .ok (.invokestatic 182, 3) := by decide +kernel
theorem dX8_likely_96 : decode cX8_likely 96 = .ok (.lreturn, 1) := by decide +kernel
theorem dX8_comesWithin_0 : decode cX8_comesWithin 0 = .ok (.aload_n 0, 1) := by decide +kernel
theorem dX8_comesWithin_1 : decode cX8_comesWithin 1 = .ok (.getfield 10, 3) := by decide +kernel
theorem dX8_comesWithin_4 : decode cX8_comesWithin 4 = .ok (.iconst 1, 1) := by decide +kernel
theorem dX8_comesWithin_5 : decode cX8_comesWithin 5 = .ok (.iload_n 1, 1) := by decide +kernel
theorem dX8_comesWithin_6 : decode cX8_comesWithin 6 = .ok (.ishl, 1) := by decide +kernel
theorem dX8_comesWithin_7 : decode cX8_comesWithin 7 = .ok (.iload 4, 2) := by decide +kernel
theorem dX8_comesWithin_9 : decode cX8_comesWithin 9 = .ok (.invokevirtual 161, 3) := by decide +kernel
theorem dX8_comesWithin_12 : decode cX8_comesWithin 12 = .ok (.iload_n 2, 1) := by decide +kernel
theorem dX8_comesWithin_13 : decode cX8_comesWithin 13 = .ok (.invokestatic 203, 3) := by decide +kernel
theorem dX8_comesWithin_16 : decode cX8_comesWithin 16 = .ok (.ifCond .ne 5, 3) := by decide +kernel
theorem dX8_comesWithin_19 : decode cX8_comesWithin 19 = .ok (.iconst 0, 1) := by decide +kernel
theorem dX8_comesWithin_20 : decode cX8_comesWithin 20 = .ok (.ireturn, 1) := by decide +kernel
theorem dX8_comesWithin_21 : decode cX8_comesWithin 21 = .ok (.iload_n 3, 1) := by decide +kernel
theorem dX8_comesWithin_22 : decode cX8_comesWithin 22 = .ok (.ifCond .ge 5, 3) := by decide +kernel
theorem dX8_comesWithin_25 : decode cX8_comesWithin 25 = .ok (.iconst 1, 1) := by decide +kernel
theorem dX8_comesWithin_26 : decode cX8_comesWithin 26 = .ok (.ireturn, 1) := by decide +kernel
theorem dX8_comesWithin_27 : decode cX8_comesWithin 27 = .ok (.aload_n 0, 1) := by decide +kernel
theorem dX8_comesWithin_28 : decode cX8_comesWithin 28 = .ok (.getfield 29, 3) := by decide +kernel
theorem dX8_comesWithin_31 : decode cX8_comesWithin 31 = .ok (.aload_n 0, 1) := by decide +kernel
theorem dX8_comesWithin_32 : decode cX8_comesWithin 32 = .ok (.getfield 10, 3) := by decide +kernel
theorem dX8_comesWithin_35 : decode cX8_comesWithin 35 = .ok (.iload 4, 2) := by decide +kernel
theorem dX8_comesWithin_37 : decode cX8_comesWithin 37 = .ok (.iload_n 2, 1) := by decide +kernel
theorem dX8_comesWithin_38 : decode cX8_comesWithin 38 = .ok (.invokevirtual 171, 3) := by decide +kernel
theorem dX8_comesWithin_41 : decode cX8_comesWithin 41 = .ok (.aload_n 0, 1) := by decide +kernel
theorem dX8_comesWithin_42 : decode cX8_comesWithin 42 = .ok (.getfield 29, 3) := by decide +kernel
theorem dX8_comesWithin_45 : decode cX8_comesWithin 45 = .ok (.getfield 175, 3) := by decide +kernel
theorem dX8_comesWithin_48 : decode cX8_comesWithin 48 = .ok (.iload_n 1, 1) := by decide +kernel
theorem dX8_comesWithin_49 : decode cX8_comesWithin 49 = .ok (.laload, 1) := by decide +kernel
theorem dX8_comesWithin_50 : decode cX8_comesWithin 50 = .ok (.iload_n 3, 1) := by decide +kernel
theorem dX8_comesWithin_51 : decode cX8_comesWithin 51 = .ok (.i2l, 1) := by decide +kernel
theorem dX8_comesWithin_52 : decode cX8_comesWithin 52 = .ok (.aload_n 0, 1) := by decide +kernel
theorem dX8_comesWithin_53 : decode cX8_comesWithin 53 = .ok (.getfield 29, 3) := by decide +kernel
theorem dX8_comesWithin_56 : decode cX8_comesWithin 56 = .ok (.getfield 178, 3) := by decide +kernel
theorem dX8_comesWithin_59 : decode cX8_comesWithin 59 = .ok (.lmul, 1) := by decide +kernel
theorem dX8_comesWithin_60 : decode cX8_comesWithin 60 = .ok (.lcmp, 1) := by decide +kernel
theorem dX8_comesWithin_61 : decode cX8_comesWithin 61 = .ok (.ifCond .gt 7, 3) := by decide +kernel
theorem dX8_comesWithin_64 : decode cX8_comesWithin 64 = .ok (.iconst 1, 1) := by decide +kernel
theorem dX8_comesWithin_65 : decode cX8_comesWithin 65 = .ok (.goto 4, 3) := by decide +kernel
theorem dX8_comesWithin_68 : decode cX8_comesWithin 68 = .ok (.iconst 0, 1) := by decide +kernel
theorem dX8_comesWithin_69 : decode cX8_comesWithin 69 = .ok (.ireturn, 1) := by decide +kernel
theorem dX8_say_0 : decode cX8_say 0 = .ok (.aload_n 0, 1) := by decide +kernel
theorem dX8_say_1 : decode cX8_say 1 = .ok (.getfield 61, 3) := by decide +kernel
theorem dX8_say_4 : decode cX8_say 4 = .ok (.iconst 0, 1) := by decide +kernel
theorem dX8_say_5 : decode cX8_say 5 = .ok (.putfield 268, 3) := by decide +kernel
theorem dX8_say_8 : decode cX8_say 8 = .ok (.aload_n 0, 1) := by decide +kernel
theorem dX8_say_9 : decode cX8_say 9 = .ok (.getfield 61, 3) := by decide +kernel
theorem dX8_say_12 : decode cX8_say 12 = .ok (.iload_n 1, 1) := by decide +kernel
theorem dX8_say_13 : decode cX8_say 13 = .ok (.i2l, 1) := by decide +kernel
theorem dX8_say_14 : decode cX8_say 14 = .ok (.invokevirtual 334, 3) := by decide +kernel
theorem dX8_say_17 : decode cX8_say 17 = .ok (.aload_n 0, 1) := by decide +kernel
theorem dX8_say_18 : decode cX8_say 18 = .ok (.getfield 61, 3) := by decide +kernel
theorem dX8_say_21 : decode cX8_say 21 = .ok (.ldc_w 338, 3) := by decide +kernel
theorem dX8_say_24 : decode cX8_say 24 = .ok (.invokevirtual 340, 3) := by decide +kernel
theorem dX8_say_27 : decode cX8_say 27 = .ok (.aload_n 0, 1) := by decide +kernel
theorem dX8_say_28 : decode cX8_say 28 = .ok (.getfield 61, 3) := by decide +kernel
theorem dX8_say_31 : decode cX8_say 31 = .ok (.iload_n 2, 1) := by decide +kernel
theorem dX8_say_32 : decode cX8_say 32 = .ok (.i2l, 1) := by decide +kernel
theorem dX8_say_33 : decode cX8_say 33 = .ok (.invokevirtual 334, 3) := by decide +kernel
theorem dX8_say_36 : decode cX8_say 36 = .ok (.aload_n 0, 1) := by decide +kernel
theorem dX8_say_37 : decode cX8_say 37 = .ok (.getfield 61, 3) := by decide +kernel
theorem dX8_say_40 : decode cX8_say 40 = .ok (.ldc_w 344, 3) := by decide +kernel
theorem dX8_say_43 : decode cX8_say 43 = .ok (.invokevirtual 340, 3) := by decide +kernel
theorem dX8_say_46 : decode cX8_say 46 = .ok (.aload_n 0, 1) := by decide +kernel
theorem dX8_say_47 : decode cX8_say 47 = .ok (.getfield 10, 3) := by decide +kernel
theorem dX8_say_50 : decode cX8_say 50 = .ok (.iconst 1, 1) := by decide +kernel
theorem dX8_say_51 : decode cX8_say 51 = .ok (.iload_n 1, 1) := by decide +kernel
theorem dX8_say_52 : decode cX8_say 52 = .ok (.ishl, 1) := by decide +kernel
theorem dX8_say_53 : decode cX8_say 53 = .ok (.aload_n 0, 1) := by decide +kernel
theorem dX8_say_54 : decode cX8_say 54 = .ok (.getfield 10, 3) := by decide +kernel
theorem dX8_say_57 : decode cX8_say 57 = .ok (.invokevirtual 157, 3) := by decide +kernel
theorem dX8_say_60 : decode cX8_say 60 = .ok (.invokevirtual 161, 3) := by decide +kernel
theorem dX8_say_63 : decode cX8_say 63 = .ok (.iload_n 2, 1) := by decide +kernel
theorem dX8_say_64 : decode cX8_say 64 = .ok (.invokestatic 203, 3) := by decide +kernel
theorem dX8_say_67 : decode cX8_say 67 = .ok (.ifCond .ne 14, 3) := by decide +kernel
theorem dX8_say_70 : decode cX8_say 70 = .ok (.aload_n 0, 1) := by decide +kernel
theorem dX8_say_71 : decode cX8_say 71 = .ok (.getfield 61, 3) := by decide +kernel
theorem dX8_say_74 : decode cX8_say 74 = .ok (.ldc_w 346, 3) := by decide +kernel
theorem dX8_say_77 : decode cX8_say 77 = .ok (.invokevirtual 340, 3) := by decide +kernel
theorem dX8_say_80 : decode cX8_say 80 = .ok (.return_, 1) := by decide +kernel
theorem dX8_say_81 : decode cX8_say 81 = .ok (.aload_n 0, 1) := by decide +kernel
theorem dX8_say_82 : decode cX8_say 82 = .ok (.getfield 29, 3) := by decide +kernel
theorem dX8_say_85 : decode cX8_say 85 = .ok (.aload_n 0, 1) := by decide +kernel
theorem dX8_say_86 : decode cX8_say 86 = .ok (.getfield 10, 3) := by decide +kernel
theorem dX8_say_89 : decode cX8_say 89 = .ok (.aload_n 0, 1) := by decide +kernel
theorem dX8_say_90 : decode cX8_say 90 = .ok (.getfield 10, 3) := by decide +kernel
theorem dX8_say_93 : decode cX8_say 93 = .ok (.invokevirtual 157, 3) := by decide +kernel
theorem dX8_say_96 : decode cX8_say 96 = .ok (.iload_n 2, 1) := by decide +kernel
theorem dX8_say_97 : decode cX8_say 97 = .ok (.invokevirtual 171, 3) := by decide +kernel
theorem dX8_say_100 : decode cX8_say 100 = .ok (.aload_n 0, 1) := by decide +kernel
theorem dX8_say_101 : decode cX8_say 101 = .ok (.aload_n 0, 1) := by decide +kernel
theorem dX8_say_102 : decode cX8_say 102 = .ok (.getfield 29, 3) := by decide +kernel
theorem dX8_say_105 : decode cX8_say 105 = .ok (.getfield 175, 3) := by decide +kernel
theorem dX8_say_108 : decode cX8_say 108 = .ok (.iload_n 1, 1) := by decide +kernel
theorem dX8_say_109 : decode cX8_say 109 = .ok (.laload, 1) := by decide +kernel
theorem dX8_say_110 : decode cX8_say 110 = .ok (.invokevirtual 348, 3) := by decide +kernel
theorem dX8_say_113 : decode cX8_say 113 = .ok (.aload_n 0, 1) := by decide +kernel
theorem dX8_say_114 : decode cX8_say 114 = .ok (.getfield 61, 3) := by decide +kernel
theorem dX8_say_117 : decode cX8_say 117 = .ok (.ldc_w 351, 3) := by decide +kernel
theorem dX8_say_120 : decode cX8_say 120 = .ok (.invokevirtual 340, 3) := by decide +kernel
theorem dX8_say_123 : decode cX8_say 123 = .ok (.aload_n 0, 1) := by decide +kernel
theorem dX8_say_124 : decode cX8_say 124 = .ok (.iload_n 1, 1) := by decide +kernel
theorem dX8_say_125 : decode cX8_say 125 = .ok (.iload_n 2, 1) := by decide +kernel
theorem dX8_say_126 : decode cX8_say 126 = .ok (.invokevirtual 189, 3) := by decide +kernel
theorem dX8_say_129 : decode cX8_say 129 = .ok (.lstore_n 3, 1) := by decide +kernel
theorem dX8_say_130 : decode cX8_say 130 = .ok (.aload_n 0, 1) := by decide +kernel
theorem dX8_say_131 : decode cX8_say 131 = .ok (.lload_n 3, 1) := by decide +kernel
theorem dX8_say_132 : decode cX8_say 132 = .ok (.invokevirtual 348, 3) := by decide +kernel
theorem dX8_say_135 : decode cX8_say 135 = .ok (.aload_n 0, 1) := by decide +kernel
theorem dX8_say_136 : decode cX8_say 136 = .ok (.getfield 61, 3) := by decide +kernel
theorem dX8_say_139 : decode cX8_say 139 = .ok (.ldc_w 353, 3) := by decide +kernel
theorem dX8_say_142 : decode cX8_say 142 = .ok (.invokevirtual 340, 3) := by decide +kernel
theorem dX8_say_145 : decode cX8_say 145 = .ok (.return_, 1) := by decide +kernel
theorem dX8_sayFraction_0 : decode cX8_sayFraction 0 = .ok (.lload_n 1, 1) := by decide +kernel
theorem dX8_sayFraction_1 : decode cX8_sayFraction 1 = .ok (.aload_n 0, 1) := by decide +kernel
theorem dX8_sayFraction_2 : decode cX8_sayFraction 2 = .ok (.getfield 29, 3) := by decide +kernel
theorem dX8_sayFraction_5 : decode cX8_sayFraction 5 = .ok (.getfield 178, 3) := by decide +kernel
theorem dX8_sayFraction_8 : decode cX8_sayFraction 8 = .ok (.iconst 1, 1) := by decide +kernel
theorem dX8_sayFraction_9 : decode cX8_sayFraction 9 = .ok (.invokestatic 182, 3) := by decide +kernel
theorem dX8_sayFraction_12 : decode cX8_sayFraction 12 = .ok (.lstore_n 3, 1) := by decide +kernel
theorem dX8_sayFraction_13 : decode cX8_sayFraction 13 = .ok (.aload_n 0, 1) := by decide +kernel
theorem dX8_sayFraction_14 : decode cX8_sayFraction 14 = .ok (.getfield 61, 3) := by decide +kernel
theorem dX8_sayFraction_17 : decode cX8_sayFraction 17 = .ok (.lload_n 1, 1) := by decide +kernel
theorem dX8_sayFraction_18 : decode cX8_sayFraction 18 = .ok (.aload_n 0, 1) := by decide +kernel
theorem dX8_sayFraction_19 : decode cX8_sayFraction 19 = .ok (.getfield 29, 3) := by decide +kernel
theorem dX8_sayFraction_22 : decode cX8_sayFraction 22 = .ok (.getfield 178, 3) := by decide +kernel
theorem dX8_sayFraction_25 : decode cX8_sayFraction 25 = .ok (.iconst 0, 1) := by decide +kernel
theorem dX8_sayFraction_26 : decode cX8_sayFraction 26 = .ok (.invokestatic 182, 3) := by decide +kernel
theorem dX8_sayFraction_29 : decode cX8_sayFraction 29 = .ok (.invokevirtual 334, 3) := by decide +kernel
theorem dX8_sayFraction_32 : decode cX8_sayFraction 32 = .ok (.lload_n 3, 1) := by decide +kernel
theorem dX8_sayFraction_33 : decode cX8_sayFraction 33 = .ok (.lconst 1, 1) := by decide +kernel
theorem dX8_sayFraction_34 : decode cX8_sayFraction 34 = .ok (.lcmp, 1) := by decide +kernel
theorem dX8_sayFraction_35 : decode cX8_sayFraction 35 = .ok (.ifCond .eq 21, 3) := by decide +kernel
theorem dX8_sayFraction_38 : decode cX8_sayFraction 38 = .ok (.aload_n 0, 1) := by decide +kernel
theorem dX8_sayFraction_39 : decode cX8_sayFraction 39 = .ok (.getfield 61, 3) := by decide +kernel
theorem dX8_sayFraction_42 : decode cX8_sayFraction 42 = .ok (.ldc_w 355, 3) := by decide +kernel
theorem dX8_sayFraction_45 : decode cX8_sayFraction 45 = .ok (.invokevirtual 340, 3) := by decide +kernel
theorem dX8_sayFraction_48 : decode cX8_sayFraction 48 = .ok (.aload_n 0, 1) := by decide +kernel
theorem dX8_sayFraction_49 : decode cX8_sayFraction 49 = .ok (.getfield 61, 3) := by decide +kernel
theorem dX8_sayFraction_52 : decode cX8_sayFraction 52 = .ok (.lload_n 3, 1) := by decide +kernel
theorem dX8_sayFraction_53 : decode cX8_sayFraction 53 = .ok (.invokevirtual 334, 3) := by decide +kernel
theorem dX8_sayFraction_56 : decode cX8_sayFraction 56 = .ok (.return_, 1) := by decide +kernel
theorem dX8_rowTells_0 : decode cX8_rowTells 0 = .ok (.iconst 0, 1) := by decide +kernel
theorem dX8_rowTells_1 : decode cX8_rowTells 1 = .ok (.istore_n 3, 1) := by decide +kernel
theorem dX8_rowTells_2 : decode cX8_rowTells 2 = .ok (.iload_n 3, 1) := by decide +kernel
theorem dX8_rowTells_3 : decode cX8_rowTells 3 = .ok (.aload_n 0, 1) := by decide +kernel
theorem dX8_rowTells_4 : decode cX8_rowTells 4 = .ok (.getfield 69, 3) := by decide +kernel
theorem dX8_rowTells_7 : decode cX8_rowTells 7 = .ok (.if_icmp .ge 28, 3) := by decide +kernel
theorem dX8_rowTells_10 : decode cX8_rowTells 10 = .ok (.aload_n 0, 1) := by decide +kernel
theorem dX8_rowTells_11 : decode cX8_rowTells 11 = .ok (.getfield 65, 3) := by decide +kernel
theorem dX8_rowTells_14 : decode cX8_rowTells 14 = .ok (.iload_n 3, 1) := by decide +kernel
theorem dX8_rowTells_15 : decode cX8_rowTells 15 = .ok (.iaload, 1) := by decide +kernel
theorem dX8_rowTells_16 : decode cX8_rowTells 16 = .ok (.iload_n 1, 1) := by decide +kernel
theorem dX8_rowTells_17 : decode cX8_rowTells 17 = .ok (.iload_n 2, 1) := by decide +kernel
theorem dX8_rowTells_18 : decode cX8_rowTells 18 = .ok (.iload_n 3, 1) := by decide +kernel
theorem dX8_rowTells_19 : decode cX8_rowTells 19 = .ok (.iconst 1, 1) := by decide +kernel
theorem dX8_rowTells_20 : decode cX8_rowTells 20 = .ok (.iadd, 1) := by decide +kernel
theorem dX8_rowTells_21 : decode cX8_rowTells 21 = .ok (.invokestatic 357, 3) := by decide +kernel
theorem dX8_rowTells_24 : decode cX8_rowTells 24 = .ok (.if_icmp .eq 5, 3) := by decide +kernel
theorem dX8_rowTells_27 : decode cX8_rowTells 27 = .ok (.iconst 0, 1) := by decide +kernel
theorem dX8_rowTells_28 : decode cX8_rowTells 28 = .ok (.ireturn, 1) := by decide +kernel
theorem dX8_rowTells_29 : decode cX8_rowTells 29 = .ok (.iinc 3 1, 3) := by decide +kernel
theorem dX8_rowTells_32 : decode cX8_rowTells 32 = .ok (.goto (-30), 3) := by decide +kernel
theorem dX8_rowTells_35 : decode cX8_rowTells 35 = .ok (.iconst 1, 1) := by decide +kernel
theorem dX8_rowTells_36 : decode cX8_rowTells 36 = .ok (.ireturn, 1) := by decide +kernel
