theorem dX8_toldTime_0 : decode cX8_toldTime 0 = .ok (.iload_n 2, 1) := by decide +kernel
theorem dX8_toldTime_1 : decode cX8_toldTime 1 = .ok (.iconst 2, 1) := by decide +kernel
theorem dX8_toldTime_2 : decode cX8_toldTime 2 = .ok (.idiv, 1) := by decide +kernel
theorem dX8_toldTime_3 : decode cX8_toldTime 3 = .ok (.istore_n 3, 1) := by decide +kernel
theorem dX8_toldTime_4 : decode cX8_toldTime 4 = .ok (.iload_n 2, 1) := by decide +kernel
theorem dX8_toldTime_5 : decode cX8_toldTime 5 = .ok (.iconst 2, 1) := by decide +kernel
theorem dX8_toldTime_6 : decode cX8_toldTime 6 = .ok (.irem, 1) := by decide +kernel
theorem dX8_toldTime_7 : decode cX8_toldTime 7 = .ok (.istore 4, 2) := by decide +kernel
theorem dX8_toldTime_9 : decode cX8_toldTime 9 = .ok (.iload_n 1, 1) := by decide +kernel
theorem dX8_toldTime_10 : decode cX8_toldTime 10 = .ok (.iload_n 3, 1) := by decide +kernel
theorem dX8_toldTime_11 : decode cX8_toldTime 11 = .ok (.invokestatic 203, 3) := by decide +kernel
theorem dX8_toldTime_14 : decode cX8_toldTime 14 = .ok (.ifCond .ne 14, 3) := by decide +kernel
theorem dX8_toldTime_17 : decode cX8_toldTime 17 = .ok (.iload 4, 2) := by decide +kernel
theorem dX8_toldTime_19 : decode cX8_toldTime 19 = .ok (.ifCond .ne 7, 3) := by decide +kernel
theorem dX8_toldTime_22 : decode cX8_toldTime 22 = .ok (.lconst 1, 1) := by decide +kernel
theorem dX8_toldTime_23 : decode cX8_toldTime 23 = .ok (.goto 4, 3) := by decide +kernel
theorem dX8_toldTime_26 : decode cX8_toldTime 26 = .ok (.lconst 0, 1) := by decide +kernel
theorem dX8_toldTime_27 : decode cX8_toldTime 27 = .ok (.lreturn, 1) := by decide +kernel
theorem dX8_toldTime_28 : decode cX8_toldTime 28 = .ok (.aload_n 0, 1) := by decide +kernel
theorem dX8_toldTime_29 : decode cX8_toldTime 29 = .ok (.getfield 29, 3) := by decide +kernel
theorem dX8_toldTime_32 : decode cX8_toldTime 32 = .ok (.getfield 175, 3) := by decide +kernel
theorem dX8_toldTime_35 : decode cX8_toldTime 35 = .ok (.iload_n 3, 1) := by decide +kernel
theorem dX8_toldTime_36 : decode cX8_toldTime 36 = .ok (.laload, 1) := by decide +kernel
theorem dX8_toldTime_37 : decode cX8_toldTime 37 = .ok (.aload_n 0, 1) := by decide +kernel
theorem dX8_toldTime_38 : decode cX8_toldTime 38 = .ok (.getfield 29, 3) := by decide +kernel
theorem dX8_toldTime_41 : decode cX8_toldTime 41 = .ok (.getfield 178, 3) := by decide +kernel
theorem dX8_toldTime_44 : decode cX8_toldTime 44 = .ok (.iload 4, 2) := by decide +kernel
theorem dX8_toldTime_46 : decode cX8_toldTime 46 = .ok (.invokestatic 182, 3) := by decide +kernel
theorem dX8_toldTime_49 : decode cX8_toldTime 49 = .ok (.lreturn, 1) := by decide +kernel
theorem dX8_weightOf_0 : decode cX8_weightOf 0 = .ok (.iload_n 0, 1) := by decide +kernel
theorem dX8_weightOf_1 : decode cX8_weightOf 1 = .ok (.tableswitch 66 1 4 #[31, 37, 41, 58], 31) := by decide +kernel
theorem dX8_weightOf_32 : decode cX8_weightOf 32 = .ok (.iload_n 2, 1) := by decide +kernel
theorem dX8_weightOf_33 : decode cX8_weightOf 33 = .ok (.iconst 1, 1) := by decide +kernel
theorem dX8_weightOf_34 : decode cX8_weightOf 34 = .ok (.iadd, 1) := by decide +kernel
theorem dX8_weightOf_35 : decode cX8_weightOf 35 = .ok (.iconst 2, 1) := by decide +kernel
theorem dX8_weightOf_36 : decode cX8_weightOf 36 = .ok (.idiv, 1) := by decide +kernel
theorem dX8_weightOf_37 : decode cX8_weightOf 37 = .ok (.ireturn, 1) := by decide +kernel
theorem dX8_weightOf_38 : decode cX8_weightOf 38 = .ok (.iconst 2, 1) := by decide +kernel
theorem dX8_weightOf_39 : decode cX8_weightOf 39 = .ok (.iload_n 2, 1) := by decide +kernel
theorem dX8_weightOf_40 : decode cX8_weightOf 40 = .ok (.imul, 1) := by decide +kernel
theorem dX8_weightOf_41 : decode cX8_weightOf 41 = .ok (.ireturn, 1) := by decide +kernel
theorem dX8_weightOf_42 : decode cX8_weightOf 42 = .ok (.iconst 2, 1) := by decide +kernel
theorem dX8_weightOf_43 : decode cX8_weightOf 43 = .ok (.iload_n 2, 1) := by decide +kernel
theorem dX8_weightOf_44 : decode cX8_weightOf 44 = .ok (.imul, 1) := by decide +kernel
theorem dX8_weightOf_45 : decode cX8_weightOf 45 = .ok (.iload_n 1, 1) := by decide +kernel
theorem dX8_weightOf_46 : decode cX8_weightOf 46 = .ok (.if_icmp .le 11, 3) := by decide +kernel
theorem dX8_weightOf_49 : decode cX8_weightOf 49 = .ok (.iconst 2, 1) := by decide +kernel
theorem dX8_weightOf_50 : decode cX8_weightOf 50 = .ok (.iload_n 2, 1) := by decide +kernel
theorem dX8_weightOf_51 : decode cX8_weightOf 51 = .ok (.imul, 1) := by decide +kernel
theorem dX8_weightOf_52 : decode cX8_weightOf 52 = .ok (.iload_n 1, 1) := by decide +kernel
theorem dX8_weightOf_53 : decode cX8_weightOf 53 = .ok (.isub, 1) := by decide +kernel
theorem dX8_weightOf_54 : decode cX8_weightOf 54 = .ok (.goto 4, 3) := by decide +kernel
theorem dX8_weightOf_57 : decode cX8_weightOf 57 = .ok (.iconst 1, 1) := by decide +kernel
theorem dX8_weightOf_58 : decode cX8_weightOf 58 = .ok (.ireturn, 1) := by decide +kernel
theorem dX8_weightOf_59 : decode cX8_weightOf 59 = .ok (.iload_n 2, 1) := by decide +kernel
theorem dX8_weightOf_60 : decode cX8_weightOf 60 = .ok (.iconst 1, 1) := by decide +kernel
theorem dX8_weightOf_61 : decode cX8_weightOf 61 = .ok (.iadd, 1) := by decide +kernel
theorem dX8_weightOf_62 : decode cX8_weightOf 62 = .ok (.iconst 2, 1) := by decide +kernel
theorem dX8_weightOf_63 : decode cX8_weightOf 63 = .ok (.idiv, 1) := by decide +kernel
theorem dX8_weightOf_64 : decode cX8_weightOf 64 = .ok (.iconst 1, 1) := by decide +kernel
theorem dX8_weightOf_65 : decode cX8_weightOf 65 = .ok (.iadd, 1) := by decide +kernel
theorem dX8_weightOf_66 : decode cX8_weightOf 66 = .ok (.ireturn, 1) := by decide +kernel
theorem dX8_weightOf_67 : decode cX8_weightOf 67 = .ok (.iload_n 2, 1) := by decide +kernel
theorem dX8_weightOf_68 : decode cX8_weightOf 68 = .ok (.ireturn, 1) := by decide +kernel
theorem dX8_minutesOf_0 : decode cX8_minutesOf 0 = .ok (.iload_n 0, 1) := by decide +kernel
theorem dX8_minutesOf_1 : decode cX8_minutesOf 1 = .ok (.tableswitch 41 2 5 #[31, 31, 37, 37], 31) := by decide +kernel
theorem dX8_minutesOf_32 : decode cX8_minutesOf 32 = .ok (.iload_n 2, 1) := by decide +kernel
theorem dX8_minutesOf_33 : decode cX8_minutesOf 33 = .ok (.iconst 1, 1) := by decide +kernel
theorem dX8_minutesOf_34 : decode cX8_minutesOf 34 = .ok (.iadd, 1) := by decide +kernel
theorem dX8_minutesOf_35 : decode cX8_minutesOf 35 = .ok (.iconst 2, 1) := by decide +kernel
theorem dX8_minutesOf_36 : decode cX8_minutesOf 36 = .ok (.idiv, 1) := by decide +kernel
theorem dX8_minutesOf_37 : decode cX8_minutesOf 37 = .ok (.ireturn, 1) := by decide +kernel
theorem dX8_minutesOf_38 : decode cX8_minutesOf 38 = .ok (.iload_n 2, 1) := by decide +kernel
theorem dX8_minutesOf_39 : decode cX8_minutesOf 39 = .ok (.iload_n 1, 1) := by decide +kernel
theorem dX8_minutesOf_40 : decode cX8_minutesOf 40 = .ok (.iadd, 1) := by decide +kernel
theorem dX8_minutesOf_41 : decode cX8_minutesOf 41 = .ok (.ireturn, 1) := by decide +kernel
theorem dX8_minutesOf_42 : decode cX8_minutesOf 42 = .ok (.iload_n 2, 1) := by decide +kernel
theorem dX8_minutesOf_43 : decode cX8_minutesOf 43 = .ok (.ireturn, 1) := by decide +kernel
theorem dX8_isKind_0 : decode cX8_isKind 0 = .ok (.iload_n 0, 1) := by decide +kernel
theorem dX8_isKind_1 : decode cX8_isKind 1 = .ok (.ifCond .lt 13, 3) := by decide +kernel
theorem dX8_isKind_4 : decode cX8_isKind 4 = .ok (.iload_n 0, 1) := by decide +kernel
theorem dX8_isKind_5 : decode cX8_isKind 5 = .ok (.bipush 6, 2) := by decide +kernel
theorem dX8_isKind_7 : decode cX8_isKind 7 = .ok (.if_icmp .ge 7, 3) := by decide +kernel
theorem dX8_isKind_10 : decode cX8_isKind 10 = .ok (.iconst 1, 1) := by decide +kernel
theorem dX8_isKind_11 : decode cX8_isKind 11 = .ok (.goto 4, 3) := by decide +kernel
theorem dX8_isKind_14 : decode cX8_isKind 14 = .ok (.iconst 0, 1) := by decide +kernel
theorem dX8_isKind_15 : decode cX8_isKind 15 = .ok (.ireturn, 1) := by decide +kernel
theorem dX8_isOfKind_0 : decode cX8_isOfKind 0 = .ok (.iload_n 0, 1) := by decide +kernel
theorem dX8_isOfKind_1 : decode cX8_isOfKind 1 = .ok (.istore_n 2, 1) := by decide +kernel
theorem dX8_isOfKind_2 : decode cX8_isOfKind 2 = .ok (.iconst 0, 1) := by decide +kernel
theorem dX8_isOfKind_3 : decode cX8_isOfKind 3 = .ok (.istore_n 3, 1) := by decide +kernel
theorem dX8_isOfKind_4 : decode cX8_isOfKind 4 = .ok (.iload_n 3, 1) := by decide +kernel
theorem dX8_isOfKind_5 : decode cX8_isOfKind 5 = .ok (.bipush 6, 2) := by decide +kernel
theorem dX8_isOfKind_7 : decode cX8_isOfKind 7 = .ok (.if_icmp .ge 29, 3) := by decide +kernel
theorem dX8_isOfKind_10 : decode cX8_isOfKind 10 = .ok (.iload_n 2, 1) := by decide +kernel
theorem dX8_isOfKind_11 : decode cX8_isOfKind 11 = .ok (.invokestatic 360, 3) := by decide +kernel
theorem dX8_isOfKind_14 : decode cX8_isOfKind 14 = .ok (.ifCond .eq 22, 3) := by decide +kernel
theorem dX8_isOfKind_17 : decode cX8_isOfKind 17 = .ok (.iload_n 2, 1) := by decide +kernel
theorem dX8_isOfKind_18 : decode cX8_isOfKind 18 = .ok (.iload_n 1, 1) := by decide +kernel
theorem dX8_isOfKind_19 : decode cX8_isOfKind 19 = .ok (.if_icmp .ne 5, 3) := by decide +kernel
theorem dX8_isOfKind_22 : decode cX8_isOfKind 22 = .ok (.iconst 1, 1) := by decide +kernel
theorem dX8_isOfKind_23 : decode cX8_isOfKind 23 = .ok (.ireturn, 1) := by decide +kernel
theorem dX8_isOfKind_24 : decode cX8_isOfKind 24 = .ok (.getstatic 363, 3) := by decide +kernel
theorem dX8_isOfKind_27 : decode cX8_isOfKind 27 = .ok (.iload_n 2, 1) := by decide +kernel
theorem dX8_isOfKind_28 : decode cX8_isOfKind 28 = .ok (.iaload, 1) := by decide +kernel
theorem dX8_isOfKind_29 : decode cX8_isOfKind 29 = .ok (.istore_n 2, 1) := by decide +kernel
theorem dX8_isOfKind_30 : decode cX8_isOfKind 30 = .ok (.iinc 3 1, 3) := by decide +kernel
theorem dX8_isOfKind_33 : decode cX8_isOfKind 33 = .ok (.goto (-29), 3) := by decide +kernel
theorem dX8_isOfKind_36 : decode cX8_isOfKind 36 = .ok (.iconst 0, 1) := by decide +kernel
theorem dX8_isOfKind_37 : decode cX8_isOfKind 37 = .ok (.ireturn, 1) := by decide +kernel
theorem dX8_has_0 : decode cX8_has 0 = .ok (.iload_n 0, 1) := by decide +kernel
theorem dX8_has_1 : decode cX8_has 1 = .ok (.iload_n 1, 1) := by decide +kernel
theorem dX8_has_2 : decode cX8_has 2 = .ok (.ishr, 1) := by decide +kernel
theorem dX8_has_3 : decode cX8_has 3 = .ok (.iconst 1, 1) := by decide +kernel
theorem dX8_has_4 : decode cX8_has 4 = .ok (.iand, 1) := by decide +kernel
theorem dX8_has_5 : decode cX8_has 5 = .ok (.iconst 1, 1) := by decide +kernel
theorem dX8_has_6 : decode cX8_has 6 = .ok (.if_icmp .ne 7, 3) := by decide +kernel
theorem dX8_has_9 : decode cX8_has 9 = .ok (.iconst 1, 1) := by decide +kernel
theorem dX8_has_10 : decode cX8_has 10 = .ok (.goto 4, 3) := by decide +kernel
theorem dX8_has_13 : decode cX8_has 13 = .ok (.iconst 0, 1) := by decide +kernel
theorem dX8_has_14 : decode cX8_has 14 = .ok (.ireturn, 1) := by decide +kernel
theorem dX8_over_0 : decode cX8_over 0 = .ok (.lload_n 2, 1) := by decide +kernel
theorem dX8_over_1 : decode cX8_over 1 = .ok (.lconst 0, 1) := by decide +kernel
theorem dX8_over_2 : decode cX8_over 2 = .ok (.lcmp, 1) := by decide +kernel
theorem dX8_over_3 : decode cX8_over 3 = .ok (.ifCond .ne 7, 3) := by decide +kernel
theorem dX8_over_6 : decode cX8_over 6 = .ok (.lconst 0, 1) := by decide +kernel
theorem dX8_over_7 : decode cX8_over 7 = .ok (.goto 6, 3) := by decide +kernel
theorem dX8_over_10 : decode cX8_over 10 = .ok (.lload_n 0, 1) := by decide +kernel
theorem dX8_over_11 : decode cX8_over 11 = .ok (.lload_n 2, 1) := by decide +kernel
theorem dX8_over_12 : decode cX8_over 12 = .ok (.ldiv, 1) := by decide +kernel
theorem dX8_over_13 : decode cX8_over 13 = .ok (.lreturn, 1) := by decide +kernel
theorem dX8_gcd_0 : decode cX8_gcd 0 = .ok (.lload_n 0, 1) := by decide +kernel
theorem dX8_gcd_1 : decode cX8_gcd 1 = .ok (.lstore 4, 2) := by decide +kernel
theorem dX8_gcd_3 : decode cX8_gcd 3 = .ok (.lload_n 2, 1) := by decide +kernel
theorem dX8_gcd_4 : decode cX8_gcd 4 = .ok (.lstore 6, 2) := by decide +kernel
theorem dX8_gcd_6 : decode cX8_gcd 6 = .ok (.iconst 0, 1) := by decide +kernel
theorem dX8_gcd_7 : decode cX8_gcd 7 = .ok (.istore 8, 2) := by decide +kernel
theorem dX8_gcd_9 : decode cX8_gcd 9 = .ok (.iload 8, 2) := by decide +kernel
theorem dX8_gcd_11 : decode cX8_gcd 11 = .ok (.bipush 100, 2) := by decide +kernel
theorem dX8_gcd_13 : decode cX8_gcd 13 = .ok (.if_icmp .ge 31, 3) := by decide +kernel
theorem dX8_gcd_16 : decode cX8_gcd 16 = .ok (.lload 6, 2) := by decide +kernel
theorem dX8_gcd_18 : decode cX8_gcd 18 = .ok (.lconst 0, 1) := by decide +kernel
theorem dX8_gcd_19 : decode cX8_gcd 19 = .ok (.lcmp, 1) := by decide +kernel
theorem dX8_gcd_20 : decode cX8_gcd 20 = .ok (.ifCond .eq 24, 3) := by decide +kernel
theorem dX8_gcd_23 : decode cX8_gcd 23 = .ok (.lload 4, 2) := by decide +kernel
theorem dX8_gcd_25 : decode cX8_gcd 25 = .ok (.lload 6, 2) := by decide +kernel
theorem dX8_gcd_27 : decode cX8_gcd 27 = .ok (.lrem, 1) := by decide +kernel
theorem dX8_gcd_28 : decode cX8_gcd 28 = .ok (.lstore 9, 2) := by decide +kernel
theorem dX8_gcd_30 : decode cX8_gcd 30 = .ok (.lload 6, 2) := by decide +kernel
theorem dX8_gcd_32 : decode cX8_gcd 32 = .ok (.lstore 4, 2) := by decide +kernel
theorem dX8_gcd_34 : decode cX8_gcd 34 = .ok (.lload 9, 2) := by decide +kernel
theorem dX8_gcd_36 : decode cX8_gcd 36 = .ok (.lstore 6, 2) := by decide +kernel
theorem dX8_gcd_38 : decode cX8_gcd 38 = .ok (.iinc 8 1, 3) := by decide +kernel
theorem dX8_gcd_41 : decode cX8_gcd 41 = .ok (.goto (-32), 3) := by decide +kernel
theorem dX8_gcd_44 : decode cX8_gcd 44 = .ok (.lload 4, 2) := by decide +kernel
theorem dX8_gcd_46 : decode cX8_gcd 46 = .ok (.lreturn, 1) := by decide +kernel
theorem dX8_leastTerms_0 : decode cX8_leastTerms 0 = .ok (.iload 4, 2) := by decide +kernel
theorem dX8_leastTerms_2 : decode cX8_leastTerms 2 = .ok (.ifCond .ne 7, 3) := by decide +kernel
theorem dX8_leastTerms_5 : decode cX8_leastTerms 5 = .ok (.lload_n 0, 1) := by decide +kernel
theorem dX8_leastTerms_6 : decode cX8_leastTerms 6 = .ok (.goto 4, 3) := by decide +kernel
theorem dX8_leastTerms_9 : decode cX8_leastTerms 9 = .ok (.lload_n 2, 1) := by decide +kernel
theorem dX8_leastTerms_10 : decode cX8_leastTerms 10 = .ok (.lload_n 0, 1) := by decide +kernel
theorem dX8_leastTerms_11 : decode cX8_leastTerms 11 = .ok (.invokestatic 366, 3) := by decide +kernel
theorem dX8_leastTerms_14 : decode cX8_leastTerms 14 = .ok (.lload_n 2, 1) := by decide +kernel
theorem dX8_leastTerms_15 : decode cX8_leastTerms 15 = .ok (.invokestatic 370, 3) := by decide +kernel
theorem dX8_leastTerms_18 : decode cX8_leastTerms 18 = .ok (.invokestatic 374, 3) := by decide +kernel
theorem dX8_leastTerms_21 : decode cX8_leastTerms 21 = .ok (.lreturn, 1) := by decide +kernel
theorem dX8_compare_0 : decode cX8_compare 0 = .ok (.lload_n 0, 1) := by decide +kernel
theorem dX8_compare_1 : decode cX8_compare 1 = .ok (.lload_n 2, 1) := by decide +kernel
theorem dX8_compare_2 : decode cX8_compare 2 = .ok (.invokestatic 374, 3) := by decide +kernel
theorem dX8_compare_5 : decode cX8_compare 5 = .ok (.lstore 8, 2) := by decide +kernel
theorem dX8_compare_7 : decode cX8_compare 7 = .ok (.lload 4, 2) := by decide +kernel
theorem dX8_compare_9 : decode cX8_compare 9 = .ok (.lload 6, 2) := by decide +kernel
theorem dX8_compare_11 : decode cX8_compare 11 = .ok (.invokestatic 374, 3) := by decide +kernel
theorem dX8_compare_14 : decode cX8_compare 14 = .ok (.lstore 10, 2) := by decide +kernel
theorem dX8_compare_16 : decode cX8_compare 16 = .ok (.lload 8, 2) := by decide +kernel
theorem dX8_compare_18 : decode cX8_compare 18 = .ok (.lload 10, 2) := by decide +kernel
theorem dX8_compare_20 : decode cX8_compare 20 = .ok (.lcmp, 1) := by decide +kernel
theorem dX8_compare_21 : decode cX8_compare 21 = .ok (.ifCond .eq 11, 3) := by decide +kernel
theorem dX8_compare_24 : decode cX8_compare 24 = .ok (.lload 8, 2) := by decide +kernel
theorem dX8_compare_26 : decode cX8_compare 26 = .ok (.lload 10, 2) := by decide +kernel
theorem dX8_compare_28 : decode cX8_compare 28 = .ok (.invokestatic 377, 3) := by decide +kernel
theorem dX8_compare_31 : decode cX8_compare 31 = .ok (.ireturn, 1) := by decide +kernel
theorem dX8_compare_32 : decode cX8_compare 32 = .ok (.lload_n 0, 1) := by decide +kernel
theorem dX8_compare_33 : decode cX8_compare 33 = .ok (.lload 8, 2) := by decide +kernel
theorem dX8_compare_35 : decode cX8_compare 35 = .ok (.lload_n 2, 1) := by decide +kernel
theorem dX8_compare_36 : decode cX8_compare 36 = .ok (.lmul, 1) := by decide +kernel
theorem dX8_compare_37 : decode cX8_compare 37 = .ok (.lsub, 1) := by decide +kernel
theorem dX8_compare_38 : decode cX8_compare 38 = .ok (.lstore 12, 2) := by decide +kernel
theorem dX8_compare_40 : decode cX8_compare 40 = .ok (.lload 4, 2) := by decide +kernel
theorem dX8_compare_42 : decode cX8_compare 42 = .ok (.lload 10, 2) := by decide +kernel
theorem dX8_compare_44 : decode cX8_compare 44 = .ok (.lload 6, 2) := by decide +kernel
theorem dX8_compare_46 : decode cX8_compare 46 = .ok (.lmul, 1) := by decide +kernel
theorem dX8_compare_47 : decode cX8_compare 47 = .ok (.lsub, 1) := by decide +kernel
theorem dX8_compare_48 : decode cX8_compare 48 = .ok (.lstore 14, 2) := by decide +kernel
theorem dX8_compare_50 : decode cX8_compare 50 = .ok (.lload 12, 2) := by decide +kernel
theorem dX8_compare_52 : decode cX8_compare 52 = .ok (.lload 6, 2) := by decide +kernel
theorem dX8_compare_54 : decode cX8_compare 54 = .ok (.lmul, 1) := by decide +kernel
theorem dX8_compare_55 : decode cX8_compare 55 = .ok (.lload 14, 2) := by decide +kernel
theorem dX8_compare_57 : decode cX8_compare 57 = .ok (.lload_n 2, 1) := by decide +kernel
theorem dX8_compare_58 : decode cX8_compare 58 = .ok (.lmul, 1) := by decide +kernel
theorem dX8_compare_59 : decode cX8_compare 59 = .ok (.invokestatic 377, 3) := by decide +kernel
theorem dX8_compare_62 : decode cX8_compare 62 = .ok (.ireturn, 1) := by decide +kernel
theorem dX8_power_0 : decode cX8_power 0 = .ok (.lconst 1, 1) := by decide +kernel
theorem dX8_power_1 : decode cX8_power 1 = .ok (.lstore_n 3, 1) := by decide +kernel
theorem dX8_power_2 : decode cX8_power 2 = .ok (.iconst 0, 1) := by decide +kernel
theorem dX8_power_3 : decode cX8_power 3 = .ok (.istore 5, 2) := by decide +kernel
theorem dX8_power_5 : decode cX8_power 5 = .ok (.iload 5, 2) := by decide +kernel
theorem dX8_power_7 : decode cX8_power 7 = .ok (.iload_n 2, 1) := by decide +kernel
theorem dX8_power_8 : decode cX8_power 8 = .ok (.if_icmp .ge 13, 3) := by decide +kernel
theorem dX8_power_11 : decode cX8_power 11 = .ok (.lload_n 3, 1) := by decide +kernel
theorem dX8_power_12 : decode cX8_power 12 = .ok (.lload_n 0, 1) := by decide +kernel
theorem dX8_power_13 : decode cX8_power 13 = .ok (.lmul, 1) := by decide +kernel
theorem dX8_power_14 : decode cX8_power 14 = .ok (.lstore_n 3, 1) := by decide +kernel
theorem dX8_power_15 : decode cX8_power 15 = .ok (.iinc 5 1, 3) := by decide +kernel
theorem dX8_power_18 : decode cX8_power 18 = .ok (.goto (-13), 3) := by decide +kernel
theorem dX8_power_21 : decode cX8_power 21 = .ok (.lload_n 3, 1) := by decide +kernel
theorem dX8_power_22 : decode cX8_power 22 = .ok (.lreturn, 1) := by decide +kernel
theorem dX8_bitsOf_0 : decode cX8_bitsOf 0 = .ok (.dload_n 0, 1) := by decide +kernel
theorem dX8_bitsOf_1 : decode cX8_bitsOf 1 = .ok (.dconst 0, 1) := by decide +kernel
theorem dX8_bitsOf_2 : decode cX8_bitsOf 2 = .ok (.dcmp .l, 1) := by decide +kernel
theorem dX8_bitsOf_3 : decode cX8_bitsOf 3 = .ok (.ifCond .gt 5, 3) := by decide +kernel
theorem dX8_bitsOf_6 : decode cX8_bitsOf 6 = .ok (.lconst 0, 1) := by decide +kernel
theorem dX8_bitsOf_7 : decode cX8_bitsOf 7 = .ok (.lreturn, 1) := by decide +kernel
theorem dX8_bitsOf_8 : decode cX8_bitsOf 8 = .ok (.dload_n 0, 1) := by decide +kernel
theorem dX8_bitsOf_9 : decode cX8_bitsOf 9 = .ok (.dstore_n 2, 1) := by decide +kernel
theorem dX8_bitsOf_10 : decode cX8_bitsOf 10 = .ok (.sipush 1023, 3) := by decide +kernel
theorem dX8_bitsOf_13 : decode cX8_bitsOf 13 = .ok (.istore 4, 2) := by decide +kernel
theorem dX8_bitsOf_15 : decode cX8_bitsOf 15 = .ok (.iconst 0, 1) := by decide +kernel
theorem dX8_bitsOf_16 : decode cX8_bitsOf 16 = .ok (.istore 5, 2) := by decide +kernel
theorem dX8_bitsOf_18 : decode cX8_bitsOf 18 = .ok (.iload 5, 2) := by decide +kernel
theorem dX8_bitsOf_20 : decode cX8_bitsOf 20 = .ok (.sipush 1100, 3) := by decide +kernel
theorem dX8_bitsOf_23 : decode cX8_bitsOf 23 = .ok (.if_icmp .ge 24, 3) := by decide +kernel
theorem dX8_bitsOf_26 : decode cX8_bitsOf 26 = .ok (.dload_n 2, 1) := by decide +kernel
theorem dX8_bitsOf_27 : decode cX8_bitsOf 27 = .ok (.dconst 1, 1) := by decide +kernel
theorem dX8_bitsOf_28 : decode cX8_bitsOf 28 = .ok (.dcmp .g, 1) := by decide +kernel
theorem dX8_bitsOf_29 : decode cX8_bitsOf 29 = .ok (.ifCond .ge 18, 3) := by decide +kernel
theorem dX8_bitsOf_32 : decode cX8_bitsOf 32 = .ok (.dload_n 2, 1) := by decide +kernel
theorem dX8_bitsOf_33 : decode cX8_bitsOf 33 = .ok (.ldc2_w 382, 3) := by decide +kernel
theorem dX8_bitsOf_36 : decode cX8_bitsOf 36 = .ok (.dmul, 1) := by decide +kernel
theorem dX8_bitsOf_37 : decode cX8_bitsOf 37 = .ok (.dstore_n 2, 1) := by decide +kernel
theorem dX8_bitsOf_38 : decode cX8_bitsOf 38 = .ok (.iinc 4 (-1), 3) := by decide +kernel
theorem dX8_bitsOf_41 : decode cX8_bitsOf 41 = .ok (.iinc 5 1, 3) := by decide +kernel
theorem dX8_bitsOf_44 : decode cX8_bitsOf 44 = .ok (.goto (-26), 3) := by decide +kernel
theorem dX8_bitsOf_47 : decode cX8_bitsOf 47 = .ok (.iload 4, 2) := by decide +kernel
theorem dX8_bitsOf_49 : decode cX8_bitsOf 49 = .ok (.i2l, 1) := by decide +kernel
theorem dX8_bitsOf_50 : decode cX8_bitsOf 50 = .ok (.bipush 52, 2) := by decide +kernel
theorem dX8_bitsOf_52 : decode cX8_bitsOf 52 = .ok (.lshl, 1) := by decide +kernel
theorem dX8_bitsOf_53 : decode cX8_bitsOf 53 = .ok (.dload_n 2, 1) := by decide +kernel
theorem dX8_bitsOf_54 : decode cX8_bitsOf 54 = .ok (.dconst 1, 1) := by decide +kernel
theorem dX8_bitsOf_55 : decode cX8_bitsOf 55 = .ok (.dsub, 1) := by decide +kernel
theorem dX8_bitsOf_56 : decode cX8_bitsOf 56 = .ok (.ldc2_w 384, 3) := by decide +kernel
theorem dX8_bitsOf_59 : decode cX8_bitsOf 59 = .ok (.dmul, 1) := by decide +kernel
theorem dX8_bitsOf_60 : decode cX8_bitsOf 60 = .ok (.d2l, 1) := by decide +kernel
theorem dX8_bitsOf_61 : decode cX8_bitsOf 61 = .ok (.ladd, 1) := by decide +kernel
theorem dX8_bitsOf_62 : decode cX8_bitsOf 62 = .ok (.lreturn, 1) := by decide +kernel
theorem dX9_init_0 : decode cX9_init 0 = .ok (.aload_n 0, 1) := by decide +kernel
theorem dX9_init_1 : decode cX9_init 1 = .ok (.invokespecial 1, 3) := by decide +kernel
theorem dX9_init_4 : decode cX9_init 4 = .ok (.aload_n 0, 1) := by decide +kernel
theorem dX9_init_5 : decode cX9_init 5 = .ok (.iconst 4, 1) := by decide +kernel
theorem dX9_init_6 : decode cX9_init 6 = .ok (.putfield 7, 3) := by decide +kernel
theorem dX9_init_9 : decode cX9_init 9 = .ok (.aload_n 0, 1) := by decide +kernel
theorem dX9_init_10 : decode cX9_init 10 = .ok (.bipush 11, 2) := by decide +kernel
theorem dX9_init_12 : decode cX9_init 12 = .ok (.newarray .int, 2) := by decide +kernel
theorem dX9_init_14 : decode cX9_init 14 = .ok (.putfield 13, 3) := by decide +kernel
theorem dX9_init_17 : decode cX9_init 17 = .ok (.aload_n 0, 1) := by decide +kernel
theorem dX9_init_18 : decode cX9_init 18 = .ok (.bipush 11, 2) := by decide +kernel
theorem dX9_init_20 : decode cX9_init 20 = .ok (.newarray .int, 2) := by decide +kernel
theorem dX9_init_22 : decode cX9_init 22 = .ok (.putfield 17, 3) := by decide +kernel
theorem dX9_init_25 : decode cX9_init 25 = .ok (.aload_n 0, 1) := by decide +kernel
theorem dX9_init_26 : decode cX9_init 26 = .ok (.bipush 11, 2) := by decide +kernel
theorem dX9_init_28 : decode cX9_init 28 = .ok (.newarray .int, 2) := by decide +kernel
theorem dX9_init_30 : decode cX9_init 30 = .ok (.putfield 20, 3) := by decide +kernel
theorem dX9_init_33 : decode cX9_init 33 = .ok (.aload_n 0, 1) := by decide +kernel
theorem dX9_init_34 : decode cX9_init 34 = .ok (.bipush 11, 2) := by decide +kernel
theorem dX9_init_36 : decode cX9_init 36 = .ok (.newarray .int, 2) := by decide +kernel
theorem dX9_init_38 : decode cX9_init 38 = .ok (.putfield 23, 3) := by decide +kernel
theorem dX9_init_41 : decode cX9_init 41 = .ok (.aload_n 0, 1) := by decide +kernel
theorem dX9_init_42 : decode cX9_init 42 = .ok (.bipush 11, 2) := by decide +kernel
theorem dX9_init_44 : decode cX9_init 44 = .ok (.newarray .int, 2) := by decide +kernel
theorem dX9_init_46 : decode cX9_init 46 = .ok (.putfield 26, 3) := by decide +kernel
theorem dX9_init_49 : decode cX9_init 49 = .ok (.aload_n 0, 1) := by decide +kernel
theorem dX9_init_50 : decode cX9_init 50 = .ok (.bipush 11, 2) := by decide +kernel
theorem dX9_init_52 : decode cX9_init 52 = .ok (.newarray .int, 2) := by decide +kernel
theorem dX9_init_54 : decode cX9_init 54 = .ok (.putfield 29, 3) := by decide +kernel
theorem dX9_init_57 : decode cX9_init 57 = .ok (.aload_n 0, 1) := by decide +kernel
theorem dX9_init_58 : decode cX9_init 58 = .ok (.bipush 7, 2) := by decide +kernel
theorem dX9_init_60 : decode cX9_init 60 = .ok (.newarray .int, 2) := by decide +kernel
theorem dX9_init_62 : decode cX9_init 62 = .ok (.putfield 32, 3) := by decide +kernel
theorem dX9_init_65 : decode cX9_init 65 = .ok (.aload_n 0, 1) := by decide +kernel
theorem dX9_init_66 : decode cX9_init 66 = .ok (.bipush 120, 2) := by decide +kernel
theorem dX9_init_68 : decode cX9_init 68 = .ok (.newarray .int, 2) := by decide +kernel
theorem dX9_init_70 : decode cX9_init 70 = .ok (.putfield 35, 3) := by decide +kernel
theorem dX9_init_73 : decode cX9_init 73 = .ok (.aload_n 0, 1) := by decide +kernel
theorem dX9_init_74 : decode cX9_init 74 = .ok (.bipush 36, 2) := by decide +kernel
theorem dX9_init_76 : decode cX9_init 76 = .ok (.newarray .char, 2) := by decide +kernel
theorem dX9_init_78 : decode cX9_init 78 = .ok (.dup, 1) := by decide +kernel
theorem dX9_init_79 : decode cX9_init 79 = .ok (.iconst 0, 1) := by decide +kernel
theorem dX9_init_80 : decode cX9_init 80 = .ok (.bipush 119, 2) := by decide +kernel
theorem dX9_init_82 : decode cX9_init 82 = .ok (.castore, 1) := by decide +kernel
theorem dX9_init_83 : decode cX9_init 83 = .ok (.dup, 1) := by decide +kernel
theorem dX9_init_84 : decode cX9_init 84 = .ok (.iconst 1, 1) := by decide +kernel
theorem dX9_init_85 : decode cX9_init 85 = .ok (.bipush 97, 2) := by decide +kernel
theorem dX9_init_87 : decode cX9_init 87 = .ok (.castore, 1) := by decide +kernel
theorem dX9_init_88 : decode cX9_init 88 = .ok (.dup, 1) := by decide +kernel
theorem dX9_init_89 : decode cX9_init 89 = .ok (.iconst 2, 1) := by decide +kernel
theorem dX9_init_90 : decode cX9_init 90 = .ok (.bipush 121, 2) := by decide +kernel
theorem dX9_init_92 : decode cX9_init 92 = .ok (.castore, 1) := by decide +kernel
theorem dX9_init_93 : decode cX9_init 93 = .ok (.dup, 1) := by decide +kernel
theorem dX9_init_94 : decode cX9_init 94 = .ok (.iconst 3, 1) := by decide +kernel
theorem dX9_init_95 : decode cX9_init 95 = .ok (.bipush 32, 2) := by decide +kernel
theorem dX9_init_97 : decode cX9_init 97 = .ok (.castore, 1) := by decide +kernel
theorem dX9_init_98 : decode cX9_init 98 = .ok (.dup, 1) := by decide +kernel
theorem dX9_init_99 : decode cX9_init 99 = .ok (.iconst 4, 1) := by decide +kernel
theorem dX9_init_100 : decode cX9_init 100 = .ok (.bipush 32, 2) := by decide +kernel
theorem dX9_init_102 : decode cX9_init 102 = .ok (.castore, 1) := by decide +kernel
theorem dX9_init_103 : decode cX9_init 103 = .ok (.dup, 1) := by decide +kernel
theorem dX9_init_104 : decode cX9_init 104 = .ok (.iconst 5, 1) := by decide +kernel
theorem dX9_init_105 : decode cX9_init 105 = .ok (.bipush 32, 2) := by decide +kernel
theorem dX9_init_107 : decode cX9_init 107 = .ok (.castore, 1) := by decide +kernel
theorem dX9_init_108 : decode cX9_init 108 = .ok (.dup, 1) := by decide +kernel
theorem dX9_init_109 : decode cX9_init 109 = .ok (.bipush 6, 2) := by decide +kernel
theorem dX9_init_111 : decode cX9_init 111 = .ok (.bipush 107, 2) := by decide +kernel
theorem dX9_init_113 : decode cX9_init 113 = .ok (.castore, 1) := by decide +kernel
theorem dX9_init_114 : decode cX9_init 114 = .ok (.dup, 1) := by decide +kernel
theorem dX9_init_115 : decode cX9_init 115 = .ok (.bipush 7, 2) := by decide +kernel
theorem dX9_init_117 : decode cX9_init 117 = .ok (.bipush 105, 2) := by decide +kernel
theorem dX9_init_119 : decode cX9_init 119 = .ok (.castore, 1) := by decide +kernel
theorem dX9_init_120 : decode cX9_init 120 = .ok (.dup, 1) := by decide +kernel
theorem dX9_init_121 : decode cX9_init 121 = .ok (.bipush 8, 2) := by decide +kernel
theorem dX9_init_123 : decode cX9_init 123 = .ok (.bipush 110, 2) := by decide +kernel
theorem dX9_init_125 : decode cX9_init 125 = .ok (.castore, 1) := by decide +kernel
theorem dX9_init_126 : decode cX9_init 126 = .ok (.dup, 1) := by decide +kernel
theorem dX9_init_127 : decode cX9_init 127 = .ok (.bipush 9, 2) := by decide +kernel
theorem dX9_init_129 : decode cX9_init 129 = .ok (.bipush 100, 2) := by decide +kernel
theorem dX9_init_131 : decode cX9_init 131 = .ok (.castore, 1) := by decide +kernel
theorem dX9_init_132 : decode cX9_init 132 = .ok (.dup, 1) := by decide +kernel
theorem dX9_init_133 : decode cX9_init 133 = .ok (.bipush 10, 2) := by decide +kernel
theorem dX9_init_135 : decode cX9_init 135 = .ok (.bipush 32, 2) := by decide +kernel
theorem dX9_init_137 : decode cX9_init 137 = .ok (.castore, 1) := by decide +kernel
theorem dX9_init_138 : decode cX9_init 138 = .ok (.dup, 1) := by decide +kernel
theorem dX9_init_139 : decode cX9_init 139 = .ok (.bipush 11, 2) := by decide +kernel
theorem dX9_init_141 : decode cX9_init 141 = .ok (.bipush 32, 2) := by decide +kernel
theorem dX9_init_143 : decode cX9_init 143 = .ok (.castore, 1) := by decide +kernel
theorem dX9_init_144 : decode cX9_init 144 = .ok (.dup, 1) := by decide +kernel
theorem dX9_init_145 : decode cX9_init 145 = .ok (.bipush 12, 2) := by decide +kernel
theorem dX9_init_147 : decode cX9_init 147 = .ok (.bipush 108, 2) := by decide +kernel
theorem dX9_init_149 : decode cX9_init 149 = .ok (.castore, 1) := by decide +kernel
theorem dX9_init_150 : decode cX9_init 150 = .ok (.dup, 1) := by decide +kernel
theorem dX9_init_151 : decode cX9_init 151 = .ok (.bipush 13, 2) := by decide +kernel
theorem dX9_init_153 : decode cX9_init 153 = .ok (.bipush 111, 2) := by decide +kernel
theorem dX9_init_155 : decode cX9_init 155 = .ok (.castore, 1) := by decide +kernel
theorem dX9_init_156 : decode cX9_init 156 = .ok (.dup, 1) := by decide +kernel
theorem dX9_init_157 : decode cX9_init 157 = .ok (.bipush 14, 2) := by decide +kernel
theorem dX9_init_159 : decode cX9_init 159 = .ok (.bipush 97, 2) := by decide +kernel
theorem dX9_init_161 : decode cX9_init 161 = .ok (.castore, 1) := by decide +kernel
theorem dX9_init_162 : decode cX9_init 162 = .ok (.dup, 1) := by decide +kernel
theorem dX9_init_163 : decode cX9_init 163 = .ok (.bipush 15, 2) := by decide +kernel
theorem dX9_init_165 : decode cX9_init 165 = .ok (.bipush 100, 2) := by decide +kernel
theorem dX9_init_167 : decode cX9_init 167 = .ok (.castore, 1) := by decide +kernel
theorem dX9_init_168 : decode cX9_init 168 = .ok (.dup, 1) := by decide +kernel
theorem dX9_init_169 : decode cX9_init 169 = .ok (.bipush 16, 2) := by decide +kernel
theorem dX9_init_171 : decode cX9_init 171 = .ok (.bipush 32, 2) := by decide +kernel
theorem dX9_init_173 : decode cX9_init 173 = .ok (.castore, 1) := by decide +kernel
theorem dX9_init_174 : decode cX9_init 174 = .ok (.dup, 1) := by decide +kernel
theorem dX9_init_175 : decode cX9_init 175 = .ok (.bipush 17, 2) := by decide +kernel
theorem dX9_init_177 : decode cX9_init 177 = .ok (.bipush 32, 2) := by decide +kernel
theorem dX9_init_179 : decode cX9_init 179 = .ok (.castore, 1) := by decide +kernel
theorem dX9_init_180 : decode cX9_init 180 = .ok (.dup, 1) := by decide +kernel
theorem dX9_init_181 : decode cX9_init 181 = .ok (.bipush 18, 2) := by decide +kernel
theorem dX9_init_183 : decode cX9_init 183 = .ok (.bipush 108, 2) := by decide +kernel
theorem dX9_init_185 : decode cX9_init 185 = .ok (.castore, 1) := by decide +kernel
theorem dX9_init_186 : decode cX9_init 186 = .ok (.dup, 1) := by decide +kernel
theorem dX9_init_187 : decode cX9_init 187 = .ok (.bipush 19, 2) := by decide +kernel
theorem dX9_init_189 : decode cX9_init 189 = .ok (.bipush 111, 2) := by decide +kernel
theorem dX9_init_191 : decode cX9_init 191 = .ok (.castore, 1) := by decide +kernel
theorem dX9_init_192 : decode cX9_init 192 = .ok (.dup, 1) := by decide +kernel
theorem dX9_init_193 : decode cX9_init 193 = .ok (.bipush 20, 2) := by decide +kernel
theorem dX9_init_195 : decode cX9_init 195 = .ok (.bipush 110, 2) := by decide +kernel
theorem dX9_init_197 : decode cX9_init 197 = .ok (.castore, 1) := by decide +kernel
theorem dX9_init_198 : decode cX9_init 198 = .ok (.dup, 1) := by decide +kernel
theorem dX9_init_199 : decode cX9_init 199 = .ok (.bipush 21, 2) := by decide +kernel
theorem dX9_init_201 : decode cX9_init 201 = .ok (.bipush 103, 2) := by decide +kernel
theorem dX9_init_203 : decode cX9_init 203 = .ok (.castore, 1) := by decide +kernel
theorem dX9_init_204 : decode cX9_init 204 = .ok (.dup, 1) := by decide +kernel
theorem dX9_init_205 : decode cX9_init 205 = .ok (.bipush 22, 2) := by decide +kernel
theorem dX9_init_207 : decode cX9_init 207 = .ok (.bipush 32, 2) := by decide +kernel
theorem dX9_init_209 : decode cX9_init 209 = .ok (.castore, 1) := by decide +kernel
theorem dX9_init_210 : decode cX9_init 210 = .ok (.dup, 1) := by decide +kernel
theorem dX9_init_211 : decode cX9_init 211 = .ok (.bipush 23, 2) := by decide +kernel
theorem dX9_init_213 : decode cX9_init 213 = .ok (.bipush 32, 2) := by decide +kernel
theorem dX9_init_215 : decode cX9_init 215 = .ok (.castore, 1) := by decide +kernel
theorem dX9_init_216 : decode cX9_init 216 = .ok (.dup, 1) := by decide +kernel
theorem dX9_init_217 : decode cX9_init 217 = .ok (.bipush 24, 2) := by decide +kernel
theorem dX9_init_219 : decode cX9_init 219 = .ok (.bipush 108, 2) := by decide +kernel
theorem dX9_init_221 : decode cX9_init 221 = .ok (.castore, 1) := by decide +kernel
theorem dX9_init_222 : decode cX9_init 222 = .ok (.dup, 1) := by decide +kernel
theorem dX9_init_223 : decode cX9_init 223 = .ok (.bipush 25, 2) := by decide +kernel
theorem dX9_init_225 : decode cX9_init 225 = .ok (.bipush 111, 2) := by decide +kernel
theorem dX9_init_227 : decode cX9_init 227 = .ok (.castore, 1) := by decide +kernel
theorem dX9_init_228 : decode cX9_init 228 = .ok (.dup, 1) := by decide +kernel
theorem dX9_init_229 : decode cX9_init 229 = .ok (.bipush 26, 2) := by decide +kernel
theorem dX9_init_231 : decode cX9_init 231 = .ok (.bipush 115, 2) := by decide +kernel
theorem dX9_init_233 : decode cX9_init 233 = .ok (.castore, 1) := by decide +kernel
theorem dX9_init_234 : decode cX9_init 234 = .ok (.dup, 1) := by decide +kernel
theorem dX9_init_235 : decode cX9_init 235 = .ok (.bipush 27, 2) := by decide +kernel
theorem dX9_init_237 : decode cX9_init 237 = .ok (.bipush 101, 2) := by decide +kernel
theorem dX9_init_239 : decode cX9_init 239 = .ok (.castore, 1) := by decide +kernel
theorem dX9_init_240 : decode cX9_init 240 = .ok (.dup, 1) := by decide +kernel
theorem dX9_init_241 : decode cX9_init 241 = .ok (.bipush 28, 2) := by decide +kernel
theorem dX9_init_243 : decode cX9_init 243 = .ok (.bipush 32, 2) := by decide +kernel
theorem dX9_init_245 : decode cX9_init 245 = .ok (.castore, 1) := by decide +kernel
theorem dX9_init_246 : decode cX9_init 246 = .ok (.dup, 1) := by decide +kernel
theorem dX9_init_247 : decode cX9_init 247 = .ok (.bipush 29, 2) := by decide +kernel
theorem dX9_init_249 : decode cX9_init 249 = .ok (.bipush 32, 2) := by decide +kernel
theorem dX9_init_251 : decode cX9_init 251 = .ok (.castore, 1) := by decide +kernel
theorem dX9_init_252 : decode cX9_init 252 = .ok (.dup, 1) := by decide +kernel
theorem dX9_init_253 : decode cX9_init 253 = .ok (.bipush 30, 2) := by decide +kernel
theorem dX9_init_255 : decode cX9_init 255 = .ok (.bipush 112, 2) := by decide +kernel
theorem dX9_init_257 : decode cX9_init 257 = .ok (.castore, 1) := by decide +kernel
theorem dX9_init_258 : decode cX9_init 258 = .ok (.dup, 1) := by decide +kernel
theorem dX9_init_259 : decode cX9_init 259 = .ok (.bipush 31, 2) := by decide +kernel
theorem dX9_init_261 : decode cX9_init 261 = .ok (.bipush 111, 2) := by decide +kernel
theorem dX9_init_263 : decode cX9_init 263 = .ok (.castore, 1) := by decide +kernel
theorem dX9_init_264 : decode cX9_init 264 = .ok (.dup, 1) := by decide +kernel
theorem dX9_init_265 : decode cX9_init 265 = .ok (.bipush 32, 2) := by decide +kernel
theorem dX9_init_267 : decode cX9_init 267 = .ok (.bipush 105, 2) := by decide +kernel
theorem dX9_init_269 : decode cX9_init 269 = .ok (.castore, 1) := by decide +kernel
theorem dX9_init_270 : decode cX9_init 270 = .ok (.dup, 1) := by decide +kernel
theorem dX9_init_271 : decode cX9_init 271 = .ok (.bipush 33, 2) := by decide +kernel
theorem dX9_init_273 : decode cX9_init 273 = .ok (.bipush 110, 2) := by decide +kernel
theorem dX9_init_275 : decode cX9_init 275 = .ok (.castore, 1) := by decide +kernel
theorem dX9_init_276 : decode cX9_init 276 = .ok (.dup, 1) := by decide +kernel
theorem dX9_init_277 : decode cX9_init 277 = .ok (.bipush 34, 2) := by decide +kernel
theorem dX9_init_279 : decode cX9_init 279 = .ok (.bipush 116, 2) := by decide +kernel
theorem dX9_init_281 : decode cX9_init 281 = .ok (.castore, 1) := by decide +kernel
theorem dX9_init_282 : decode cX9_init 282 = .ok (.dup, 1) := by decide +kernel
theorem dX9_init_283 : decode cX9_init 283 = .ok (.bipush 35, 2) := by decide +kernel
theorem dX9_init_285 : decode cX9_init 285 = .ok (.bipush 115, 2) := by decide +kernel
theorem dX9_init_287 : decode cX9_init 287 = .ok (.castore, 1) := by decide +kernel
theorem dX9_init_288 : decode cX9_init 288 = .ok (.putfield 38, 3) := by decide +kernel
theorem dX9_init_291 : decode cX9_init 291 = .ok (.aload_n 0, 1) := by decide +kernel
theorem dX9_init_292 : decode cX9_init 292 = .ok (.bipush 6, 2) := by decide +kernel
theorem dX9_init_294 : decode cX9_init 294 = .ok (.newarray .int, 2) := by decide +kernel
theorem dX9_init_296 : decode cX9_init 296 = .ok (.dup, 1) := by decide +kernel
theorem dX9_init_297 : decode cX9_init 297 = .ok (.iconst 0, 1) := by decide +kernel
theorem dX9_init_298 : decode cX9_init 298 = .ok (.iconst 3, 1) := by decide +kernel
theorem dX9_init_299 : decode cX9_init 299 = .ok (.iastore, 1) := by decide +kernel
theorem dX9_init_300 : decode cX9_init 300 = .ok (.dup, 1) := by decide +kernel
theorem dX9_init_301 : decode cX9_init 301 = .ok (.iconst 1, 1) := by decide +kernel
theorem dX9_init_302 : decode cX9_init 302 = .ok (.iconst 4, 1) := by decide +kernel
theorem dX9_init_303 : decode cX9_init 303 = .ok (.iastore, 1) := by decide +kernel
theorem dX9_init_304 : decode cX9_init 304 = .ok (.dup, 1) := by decide +kernel
theorem dX9_init_305 : decode cX9_init 305 = .ok (.iconst 2, 1) := by decide +kernel
theorem dX9_init_306 : decode cX9_init 306 = .ok (.iconst 4, 1) := by decide +kernel
theorem dX9_init_307 : decode cX9_init 307 = .ok (.iastore, 1) := by decide +kernel
theorem dX9_init_308 : decode cX9_init 308 = .ok (.dup, 1) := by decide +kernel
theorem dX9_init_309 : decode cX9_init 309 = .ok (.iconst 3, 1) := by decide +kernel
theorem dX9_init_310 : decode cX9_init 310 = .ok (.iconst 4, 1) := by decide +kernel
theorem dX9_init_311 : decode cX9_init 311 = .ok (.iastore, 1) := by decide +kernel
theorem dX9_init_312 : decode cX9_init 312 = .ok (.dup, 1) := by decide +kernel
theorem dX9_init_313 : decode cX9_init 313 = .ok (.iconst 4, 1) := by decide +kernel
theorem dX9_init_314 : decode cX9_init 314 = .ok (.iconst 4, 1) := by decide +kernel
theorem dX9_init_315 : decode cX9_init 315 = .ok (.iastore, 1) := by decide +kernel
theorem dX9_init_316 : decode cX9_init 316 = .ok (.dup, 1) := by decide +kernel
theorem dX9_init_317 : decode cX9_init 317 = .ok (.iconst 5, 1) := by decide +kernel
theorem dX9_init_318 : decode cX9_init 318 = .ok (.bipush 6, 2) := by decide +kernel
theorem dX9_init_320 : decode cX9_init 320 = .ok (.iastore, 1) := by decide +kernel
theorem dX9_init_321 : decode cX9_init 321 = .ok (.putfield 42, 3) := by decide +kernel
theorem dX9_init_324 : decode cX9_init 324 = .ok (.aload_n 0, 1) := by decide +kernel
theorem dX9_init_325 : decode cX9_init 325 = .ok (.bipush 6, 2) := by decide +kernel
theorem dX9_init_327 : decode cX9_init 327 = .ok (.newarray .int, 2) := by decide +kernel
theorem dX9_init_329 : decode cX9_init 329 = .ok (.dup, 1) := by decide +kernel
theorem dX9_init_330 : decode cX9_init 330 = .ok (.iconst 0, 1) := by decide +kernel
theorem dX9_init_331 : decode cX9_init 331 = .ok (.iconst 4, 1) := by decide +kernel
theorem dX9_init_332 : decode cX9_init 332 = .ok (.iastore, 1) := by decide +kernel
theorem dX9_init_333 : decode cX9_init 333 = .ok (.dup, 1) := by decide +kernel
theorem dX9_init_334 : decode cX9_init 334 = .ok (.iconst 1, 1) := by decide +kernel
theorem dX9_init_335 : decode cX9_init 335 = .ok (.iconst 3, 1) := by decide +kernel
theorem dX9_init_336 : decode cX9_init 336 = .ok (.iastore, 1) := by decide +kernel
theorem dX9_init_337 : decode cX9_init 337 = .ok (.dup, 1) := by decide +kernel
theorem dX9_init_338 : decode cX9_init 338 = .ok (.iconst 2, 1) := by decide +kernel
theorem dX9_init_339 : decode cX9_init 339 = .ok (.iconst 2, 1) := by decide +kernel
theorem dX9_init_340 : decode cX9_init 340 = .ok (.iastore, 1) := by decide +kernel
theorem dX9_init_341 : decode cX9_init 341 = .ok (.dup, 1) := by decide +kernel
theorem dX9_init_342 : decode cX9_init 342 = .ok (.iconst 3, 1) := by decide +kernel
theorem dX9_init_343 : decode cX9_init 343 = .ok (.iconst 2, 1) := by decide +kernel
theorem dX9_init_344 : decode cX9_init 344 = .ok (.iastore, 1) := by decide +kernel
theorem dX9_init_345 : decode cX9_init 345 = .ok (.dup, 1) := by decide +kernel
theorem dX9_init_346 : decode cX9_init 346 = .ok (.iconst 4, 1) := by decide +kernel
theorem dX9_init_347 : decode cX9_init 347 = .ok (.iconst 1, 1) := by decide +kernel
theorem dX9_init_348 : decode cX9_init 348 = .ok (.iastore, 1) := by decide +kernel
theorem dX9_init_349 : decode cX9_init 349 = .ok (.dup, 1) := by decide +kernel
theorem dX9_init_350 : decode cX9_init 350 = .ok (.iconst 5, 1) := by decide +kernel
theorem dX9_init_351 : decode cX9_init 351 = .ok (.iconst 1, 1) := by decide +kernel
theorem dX9_init_352 : decode cX9_init 352 = .ok (.iastore, 1) := by decide +kernel
theorem dX9_init_353 : decode cX9_init 353 = .ok (.putfield 45, 3) := by decide +kernel
theorem dX9_init_356 : decode cX9_init 356 = .ok (.aload_n 0, 1) := by decide +kernel
theorem dX9_init_357 : decode cX9_init 357 = .ok (.iconst 4, 1) := by decide +kernel
theorem dX9_init_358 : decode cX9_init 358 = .ok (.newarray .int, 2) := by decide +kernel
theorem dX9_init_360 : decode cX9_init 360 = .ok (.putfield 48, 3) := by decide +kernel
theorem dX9_init_363 : decode cX9_init 363 = .ok (.aload_n 0, 1) := by decide +kernel
theorem dX9_init_364 : decode cX9_init 364 = .ok (.bipush 62, 2) := by decide +kernel
theorem dX9_init_366 : decode cX9_init 366 = .ok (.newarray .int, 2) := by decide +kernel
theorem dX9_init_368 : decode cX9_init 368 = .ok (.putfield 51, 3) := by decide +kernel
theorem dX9_init_371 : decode cX9_init 371 = .ok (.aload_n 0, 1) := by decide +kernel
theorem dX9_init_372 : decode cX9_init 372 = .ok (.bipush 62, 2) := by decide +kernel
theorem dX9_init_374 : decode cX9_init 374 = .ok (.newarray .int, 2) := by decide +kernel
theorem dX9_init_376 : decode cX9_init 376 = .ok (.putfield 54, 3) := by decide +kernel
theorem dX9_init_379 : decode cX9_init 379 = .ok (.aload_n 0, 1) := by decide +kernel
theorem dX9_init_380 : decode cX9_init 380 = .ok (.bipush 6, 2) := by decide +kernel
theorem dX9_init_382 : decode cX9_init 382 = .ok (.newarray .int, 2) := by decide +kernel
theorem dX9_init_384 : decode cX9_init 384 = .ok (.putfield 57, 3) := by decide +kernel
theorem dX9_init_387 : decode cX9_init 387 = .ok (.aload_n 0, 1) := by decide +kernel
theorem dX9_init_388 : decode cX9_init 388 = .ok (.bipush 36, 2) := by decide +kernel
theorem dX9_init_390 : decode cX9_init 390 = .ok (.newarray .long, 2) := by decide +kernel
theorem dX9_init_392 : decode cX9_init 392 = .ok (.putfield 60, 3) := by decide +kernel
theorem dX9_init_395 : decode cX9_init 395 = .ok (.aload_n 0, 1) := by decide +kernel
theorem dX9_init_396 : decode cX9_init 396 = .ok (.bipush 6, 2) := by decide +kernel
theorem dX9_init_398 : decode cX9_init 398 = .ok (.newarray .long, 2) := by decide +kernel
theorem dX9_init_400 : decode cX9_init 400 = .ok (.putfield 64, 3) := by decide +kernel
theorem dX9_init_403 : decode cX9_init 403 = .ok (.aload_n 0, 1) := by decide +kernel
theorem dX9_init_404 : decode cX9_init 404 = .ok (.bipush 64, 2) := by decide +kernel
theorem dX9_init_406 : decode cX9_init 406 = .ok (.newarray .long, 2) := by decide +kernel
theorem dX9_init_408 : decode cX9_init 408 = .ok (.putfield 67, 3) := by decide +kernel
theorem dX9_init_411 : decode cX9_init 411 = .ok (.aload_n 0, 1) := by decide +kernel
theorem dX9_init_412 : decode cX9_init 412 = .ok (.bipush 6, 2) := by decide +kernel
theorem dX9_init_414 : decode cX9_init 414 = .ok (.newarray .double, 2) := by decide +kernel
theorem dX9_init_416 : decode cX9_init 416 = .ok (.putfield 70, 3) := by decide +kernel
theorem dX9_init_419 : decode cX9_init 419 = .ok (.aload_n 0, 1) := by decide +kernel
theorem dX9_init_420 : decode cX9_init 420 = .ok (.bipush 6, 2) := by decide +kernel
theorem dX9_init_422 : decode cX9_init 422 = .ok (.newarray .double, 2) := by decide +kernel
theorem dX9_init_424 : decode cX9_init 424 = .ok (.putfield 74, 3) := by decide +kernel
theorem dX9_init_427 : decode cX9_init 427 = .ok (.aload_n 0, 1) := by decide +kernel
theorem dX9_init_428 : decode cX9_init 428 = .ok (.bipush 120, 2) := by decide +kernel
theorem dX9_init_430 : decode cX9_init 430 = .ok (.newarray .int, 2) := by decide +kernel
theorem dX9_init_432 : decode cX9_init 432 = .ok (.putfield 77, 3) := by decide +kernel
theorem dX9_init_435 : decode cX9_init 435 = .ok (.aload_n 0, 1) := by decide +kernel
theorem dX9_init_436 : decode cX9_init 436 = .ok (.bipush 20, 2) := by decide +kernel
theorem dX9_init_438 : decode cX9_init 438 = .ok (.newarray .int, 2) := by decide +kernel
theorem dX9_init_440 : decode cX9_init 440 = .ok (.putfield 80, 3) := by decide +kernel
theorem dX9_init_443 : decode cX9_init 443 = .ok (.aload_n 0, 1) := by decide +kernel
theorem dX9_init_444 : decode cX9_init 444 = .ok (.iconst 4, 1) := by decide +kernel
theorem dX9_init_445 : decode cX9_init 445 = .ok (.newarray .char, 2) := by decide +kernel
theorem dX9_init_447 : decode cX9_init 447 = .ok (.dup, 1) := by decide +kernel
theorem dX9_init_448 : decode cX9_init 448 = .ok (.iconst 0, 1) := by decide +kernel
theorem dX9_init_449 : decode cX9_init 449 = .ok (.bipush 32, 2) := by decide +kernel
theorem dX9_init_451 : decode cX9_init 451 = .ok (.castore, 1) := by decide +kernel
theorem dX9_init_452 : decode cX9_init 452 = .ok (.dup, 1) := by decide +kernel
theorem dX9_init_453 : decode cX9_init 453 = .ok (.iconst 1, 1) := by decide +kernel
theorem dX9_init_454 : decode cX9_init 454 = .ok (.bipush 116, 2) := by decide +kernel
theorem dX9_init_456 : decode cX9_init 456 = .ok (.castore, 1) := by decide +kernel
theorem dX9_init_457 : decode cX9_init 457 = .ok (.dup, 1) := by decide +kernel
theorem dX9_init_458 : decode cX9_init 458 = .ok (.iconst 2, 1) := by decide +kernel
theorem dX9_init_459 : decode cX9_init 459 = .ok (.bipush 111, 2) := by decide +kernel
theorem dX9_init_461 : decode cX9_init 461 = .ok (.castore, 1) := by decide +kernel
theorem dX9_init_462 : decode cX9_init 462 = .ok (.dup, 1) := by decide +kernel
theorem dX9_init_463 : decode cX9_init 463 = .ok (.iconst 3, 1) := by decide +kernel
theorem dX9_init_464 : decode cX9_init 464 = .ok (.bipush 32, 2) := by decide +kernel
theorem dX9_init_466 : decode cX9_init 466 = .ok (.castore, 1) := by decide +kernel
theorem dX9_init_467 : decode cX9_init 467 = .ok (.putfield 83, 3) := by decide +kernel
theorem dX9_init_470 : decode cX9_init 470 = .ok (.aload_n 0, 1) := by decide +kernel
theorem dX9_init_471 : decode cX9_init 471 = .ok (.iconst 5, 1) := by decide +kernel
theorem dX9_init_472 : decode cX9_init 472 = .ok (.newarray .char, 2) := by decide +kernel
theorem dX9_init_474 : decode cX9_init 474 = .ok (.dup, 1) := by decide +kernel
theorem dX9_init_475 : decode cX9_init 475 = .ok (.iconst 0, 1) := by decide +kernel
theorem dX9_init_476 : decode cX9_init 476 = .ok (.bipush 110, 2) := by decide +kernel
theorem dX9_init_478 : decode cX9_init 478 = .ok (.castore, 1) := by decide +kernel
theorem dX9_init_479 : decode cX9_init 479 = .ok (.dup, 1) := by decide +kernel
theorem dX9_init_480 : decode cX9_init 480 = .ok (.iconst 1, 1) := by decide +kernel
theorem dX9_init_481 : decode cX9_init 481 = .ok (.bipush 101, 2) := by decide +kernel
theorem dX9_init_483 : decode cX9_init 483 = .ok (.castore, 1) := by decide +kernel
theorem dX9_init_484 : decode cX9_init 484 = .ok (.dup, 1) := by decide +kernel
theorem dX9_init_485 : decode cX9_init 485 = .ok (.iconst 2, 1) := by decide +kernel
theorem dX9_init_486 : decode cX9_init 486 = .ok (.bipush 118, 2) := by decide +kernel
theorem dX9_init_488 : decode cX9_init 488 = .ok (.castore, 1) := by decide +kernel
theorem dX9_init_489 : decode cX9_init 489 = .ok (.dup, 1) := by decide +kernel
theorem dX9_init_490 : decode cX9_init 490 = .ok (.iconst 3, 1) := by decide +kernel
theorem dX9_init_491 : decode cX9_init 491 = .ok (.bipush 101, 2) := by decide +kernel
theorem dX9_init_493 : decode cX9_init 493 = .ok (.castore, 1) := by decide +kernel
theorem dX9_init_494 : decode cX9_init 494 = .ok (.dup, 1) := by decide +kernel
theorem dX9_init_495 : decode cX9_init 495 = .ok (.iconst 4, 1) := by decide +kernel
theorem dX9_init_496 : decode cX9_init 496 = .ok (.bipush 114, 2) := by decide +kernel
theorem dX9_init_498 : decode cX9_init 498 = .ok (.castore, 1) := by decide +kernel
theorem dX9_init_499 : decode cX9_init 499 = .ok (.putfield 86, 3) := by decide +kernel
theorem dX9_init_502 : decode cX9_init 502 = .ok (.aload_n 0, 1) := by decide +kernel
theorem dX9_init_503 : decode cX9_init 503 = .ok (.bipush 8, 2) := by decide +kernel
theorem dX9_init_505 : decode cX9_init 505 = .ok (.newarray .char, 2) := by decide +kernel
theorem dX9_init_507 : decode cX9_init 507 = .ok (.dup, 1) := by decide +kernel
theorem dX9_init_508 : decode cX9_init 508 = .ok (.iconst 0, 1) := by decide +kernel
theorem dX9_init_509 : decode cX9_init 509 = .ok (.bipush 32, 2) := by decide +kernel
theorem dX9_init_511 : decode cX9_init 511 = .ok (.castore, 1) := by decide +kernel
theorem dX9_init_512 : decode cX9_init 512 = .ok (.dup, 1) := by decide +kernel
theorem dX9_init_513 : decode cX9_init 513 = .ok (.iconst 1, 1) := by decide +kernel
theorem dX9_init_514 : decode cX9_init 514 = .ok (.bipush 116, 2) := by decide +kernel
theorem dX9_init_516 : decode cX9_init 516 = .ok (.castore, 1) := by decide +kernel
theorem dX9_init_517 : decode cX9_init 517 = .ok (.dup, 1) := by decide +kernel
theorem dX9_init_518 : decode cX9_init 518 = .ok (.iconst 2, 1) := by decide +kernel
theorem dX9_init_519 : decode cX9_init 519 = .ok (.bipush 104, 2) := by decide +kernel
theorem dX9_init_521 : decode cX9_init 521 = .ok (.castore, 1) := by decide +kernel
theorem dX9_init_522 : decode cX9_init 522 = .ok (.dup, 1) := by decide +kernel
theorem dX9_init_523 : decode cX9_init 523 = .ok (.iconst 3, 1) := by decide +kernel
theorem dX9_init_524 : decode cX9_init 524 = .ok (.bipush 101, 2) := by decide +kernel
theorem dX9_init_526 : decode cX9_init 526 = .ok (.castore, 1) := by decide +kernel
theorem dX9_init_527 : decode cX9_init 527 = .ok (.dup, 1) := by decide +kernel
theorem dX9_init_528 : decode cX9_init 528 = .ok (.iconst 4, 1) := by decide +kernel
theorem dX9_init_529 : decode cX9_init 529 = .ok (.bipush 114, 2) := by decide +kernel
theorem dX9_init_531 : decode cX9_init 531 = .ok (.castore, 1) := by decide +kernel
theorem dX9_init_532 : decode cX9_init 532 = .ok (.dup, 1) := by decide +kernel
theorem dX9_init_533 : decode cX9_init 533 = .ok (.iconst 5, 1) := by decide +kernel
theorem dX9_init_534 : decode cX9_init 534 = .ok (.bipush 101, 2) := by decide +kernel
theorem dX9_init_536 : decode cX9_init 536 = .ok (.castore, 1) := by decide +kernel
theorem dX9_init_537 : decode cX9_init 537 = .ok (.dup, 1) := by decide +kernel
theorem dX9_init_538 : decode cX9_init 538 = .ok (.bipush 6, 2) := by decide +kernel
theorem dX9_init_540 : decode cX9_init 540 = .ok (.bipush 44, 2) := by decide +kernel
theorem dX9_init_542 : decode cX9_init 542 = .ok (.castore, 1) := by decide +kernel
theorem dX9_init_543 : decode cX9_init 543 = .ok (.dup, 1) := by decide +kernel
theorem dX9_init_544 : decode cX9_init 544 = .ok (.bipush 7, 2) := by decide +kernel
theorem dX9_init_546 : decode cX9_init 546 = .ok (.bipush 32, 2) := by decide +kernel
theorem dX9_init_548 : decode cX9_init 548 = .ok (.castore, 1) := by decide +kernel
theorem dX9_init_549 : decode cX9_init 549 = .ok (.putfield 89, 3) := by decide +kernel
theorem dX9_init_552 : decode cX9_init 552 = .ok (.aload_n 0, 1) := by decide +kernel
theorem dX9_init_553 : decode cX9_init 553 = .ok (.bipush 10, 2) := by decide +kernel
theorem dX9_init_555 : decode cX9_init 555 = .ok (.newarray .char, 2) := by decide +kernel
theorem dX9_init_557 : decode cX9_init 557 = .ok (.dup, 1) := by decide +kernel
theorem dX9_init_558 : decode cX9_init 558 = .ok (.iconst 0, 1) := by decide +kernel
theorem dX9_init_559 : decode cX9_init 559 = .ok (.bipush 32, 2) := by decide +kernel
theorem dX9_init_561 : decode cX9_init 561 = .ok (.castore, 1) := by decide +kernel
theorem dX9_init_562 : decode cX9_init 562 = .ok (.dup, 1) := by decide +kernel
theorem dX9_init_563 : decode cX9_init 563 = .ok (.iconst 1, 1) := by decide +kernel
theorem dX9_init_564 : decode cX9_init 564 = .ok (.bipush 98, 2) := by decide +kernel
theorem dX9_init_566 : decode cX9_init 566 = .ok (.castore, 1) := by decide +kernel
theorem dX9_init_567 : decode cX9_init 567 = .ok (.dup, 1) := by decide +kernel
theorem dX9_init_568 : decode cX9_init 568 = .ok (.iconst 2, 1) := by decide +kernel
theorem dX9_init_569 : decode cX9_init 569 = .ok (.bipush 111, 2) := by decide +kernel
theorem dX9_init_571 : decode cX9_init 571 = .ok (.castore, 1) := by decide +kernel
theorem dX9_init_572 : decode cX9_init 572 = .ok (.dup, 1) := by decide +kernel
theorem dX9_init_573 : decode cX9_init 573 = .ok (.iconst 3, 1) := by decide +kernel
theorem dX9_init_574 : decode cX9_init 574 = .ok (.bipush 116, 2) := by decide +kernel
theorem dX9_init_576 : decode cX9_init 576 = .ok (.castore, 1) := by decide +kernel
theorem dX9_init_577 : decode cX9_init 577 = .ok (.dup, 1) := by decide +kernel
theorem dX9_init_578 : decode cX9_init 578 = .ok (.iconst 4, 1) := by decide +kernel
theorem dX9_init_579 : decode cX9_init 579 = .ok (.bipush 104, 2) := by decide +kernel
theorem dX9_init_581 : decode cX9_init 581 = .ok (.castore, 1) := by decide +kernel
theorem dX9_init_582 : decode cX9_init 582 = .ok (.dup, 1) := by decide +kernel
theorem dX9_init_583 : decode cX9_init 583 = .ok (.iconst 5, 1) := by decide +kernel
theorem dX9_init_584 : decode cX9_init 584 = .ok (.bipush 32, 2) := by decide +kernel
theorem dX9_init_586 : decode cX9_init 586 = .ok (.castore, 1) := by decide +kernel
theorem dX9_init_587 : decode cX9_init 587 = .ok (.dup, 1) := by decide +kernel
theorem dX9_init_588 : decode cX9_init 588 = .ok (.bipush 6, 2) := by decide +kernel
theorem dX9_init_590 : decode cX9_init 590 = .ok (.bipush 119, 2) := by decide +kernel
theorem dX9_init_592 : decode cX9_init 592 = .ok (.castore, 1) := by decide +kernel
theorem dX9_init_593 : decode cX9_init 593 = .ok (.dup, 1) := by decide +kernel
theorem dX9_init_594 : decode cX9_init 594 = .ok (.bipush 7, 2) := by decide +kernel
theorem dX9_init_596 : decode cX9_init 596 = .ok (.bipush 97, 2) := by decide +kernel
theorem dX9_init_598 : decode cX9_init 598 = .ok (.castore, 1) := by decide +kernel
theorem dX9_init_599 : decode cX9_init 599 = .ok (.dup, 1) := by decide +kernel
theorem dX9_init_600 : decode cX9_init 600 = .ok (.bipush 8, 2) := by decide +kernel
theorem dX9_init_602 : decode cX9_init 602 = .ok (.bipush 121, 2) := by decide +kernel
theorem dX9_init_604 : decode cX9_init 604 = .ok (.castore, 1) := by decide +kernel
theorem dX9_init_605 : decode cX9_init 605 = .ok (.dup, 1) := by decide +kernel
theorem dX9_init_606 : decode cX9_init 606 = .ok (.bipush 9, 2) := by decide +kernel
theorem dX9_init_608 : decode cX9_init 608 = .ok (.bipush 115, 2) := by decide +kernel
theorem dX9_init_610 : decode cX9_init 610 = .ok (.castore, 1) := by decide +kernel
theorem dX9_init_611 : decode cX9_init 611 = .ok (.putfield 92, 3) := by decide +kernel
theorem dX9_init_614 : decode cX9_init 614 = .ok (.aload_n 0, 1) := by decide +kernel
theorem dX9_init_615 : decode cX9_init 615 = .ok (.bipush 10, 2) := by decide +kernel
theorem dX9_init_617 : decode cX9_init 617 = .ok (.newarray .int, 2) := by decide +kernel
theorem dX9_init_619 : decode cX9_init 619 = .ok (.putfield 95, 3) := by decide +kernel
theorem dX9_init_622 : decode cX9_init 622 = .ok (.aload_n 0, 1) := by decide +kernel
theorem dX9_init_623 : decode cX9_init 623 = .ok (.bipush 60, 2) := by decide +kernel
theorem dX9_init_625 : decode cX9_init 625 = .ok (.newarray .long, 2) := by decide +kernel
theorem dX9_init_627 : decode cX9_init 627 = .ok (.putfield 98, 3) := by decide +kernel
theorem dX9_init_630 : decode cX9_init 630 = .ok (.aload_n 0, 1) := by decide +kernel
theorem dX9_init_631 : decode cX9_init 631 = .ok (.iconst 3, 1) := by decide +kernel
theorem dX9_init_632 : decode cX9_init 632 = .ok (.newarray .int, 2) := by decide +kernel
theorem dX9_init_634 : decode cX9_init 634 = .ok (.putfield 101, 3) := by decide +kernel
theorem dX9_init_637 : decode cX9_init 637 = .ok (.aload_n 0, 1) := by decide +kernel
theorem dX9_init_638 : decode cX9_init 638 = .ok (.iconst 3, 1) := by decide +kernel
theorem dX9_init_639 : decode cX9_init 639 = .ok (.newarray .int, 2) := by decide +kernel
theorem dX9_init_641 : decode cX9_init 641 = .ok (.putfield 104, 3) := by decide +kernel
theorem dX9_init_644 : decode cX9_init 644 = .ok (.aload_n 0, 1) := by decide +kernel
theorem dX9_init_645 : decode cX9_init 645 = .ok (.iconst 3, 1) := by decide +kernel
theorem dX9_init_646 : decode cX9_init 646 = .ok (.newarray .int, 2) := by decide +kernel
theorem dX9_init_648 : decode cX9_init 648 = .ok (.putfield 107, 3) := by decide +kernel
theorem dX9_init_651 : decode cX9_init 651 = .ok (.aload_n 0, 1) := by decide +kernel
theorem dX9_init_652 : decode cX9_init 652 = .ok (.bipush 27, 2) := by decide +kernel
theorem dX9_init_654 : decode cX9_init 654 = .ok (.newarray .int, 2) := by decide +kernel
theorem dX9_init_656 : decode cX9_init 656 = .ok (.putfield 110, 3) := by decide +kernel
theorem dX9_init_659 : decode cX9_init 659 = .ok (.aload_n 0, 1) := by decide +kernel
theorem dX9_init_660 : decode cX9_init 660 = .ok (.bipush 27, 2) := by decide +kernel
theorem dX9_init_662 : decode cX9_init 662 = .ok (.newarray .int, 2) := by decide +kernel
theorem dX9_init_664 : decode cX9_init 664 = .ok (.putfield 113, 3) := by decide +kernel
theorem dX9_init_667 : decode cX9_init 667 = .ok (.iconst 0, 1) := by decide +kernel
theorem dX9_init_668 : decode cX9_init 668 = .ok (.istore_n 1, 1) := by decide +kernel
theorem dX9_init_669 : decode cX9_init 669 = .ok (.iload_n 1, 1) := by decide +kernel
theorem dX9_init_670 : decode cX9_init 670 = .ok (.iconst 3, 1) := by decide +kernel
theorem dX9_init_671 : decode cX9_init 671 = .ok (.if_icmp .ge 23, 3) := by decide +kernel
theorem dX9_init_674 : decode cX9_init 674 = .ok (.aload_n 0, 1) := by decide +kernel
theorem dX9_init_675 : decode cX9_init 675 = .ok (.getfield 101, 3) := by decide +kernel
theorem dX9_init_678 : decode cX9_init 678 = .ok (.iload_n 1, 1) := by decide +kernel
theorem dX9_init_679 : decode cX9_init 679 = .ok (.iconst (-1), 1) := by decide +kernel
theorem dX9_init_680 : decode cX9_init 680 = .ok (.iastore, 1) := by decide +kernel
theorem dX9_init_681 : decode cX9_init 681 = .ok (.aload_n 0, 1) := by decide +kernel
theorem dX9_init_682 : decode cX9_init 682 = .ok (.getfield 107, 3) := by decide +kernel
theorem dX9_init_685 : decode cX9_init 685 = .ok (.iload_n 1, 1) := by decide +kernel
theorem dX9_init_686 : decode cX9_init 686 = .ok (.iconst (-1), 1) := by decide +kernel
theorem dX9_init_687 : decode cX9_init 687 = .ok (.iastore, 1) := by decide +kernel
theorem dX9_init_688 : decode cX9_init 688 = .ok (.iinc 1 1, 3) := by decide +kernel
theorem dX9_init_691 : decode cX9_init 691 = .ok (.goto (-22), 3) := by decide +kernel
theorem dX9_init_694 : decode cX9_init 694 = .ok (.return_, 1) := by decide +kernel
theorem dX9_isIn_0 : decode cX9_isIn 0 = .ok (.lload_n 0, 1) := by decide +kernel
theorem dX9_isIn_1 : decode cX9_isIn 1 = .ok (.lload_n 2, 1) := by decide +kernel
theorem dX9_isIn_2 : decode cX9_isIn 2 = .ok (.lcmp, 1) := by decide +kernel
theorem dX9_isIn_3 : decode cX9_isIn 3 = .ok (.ifCond .lt 14, 3) := by decide +kernel
theorem dX9_isIn_6 : decode cX9_isIn 6 = .ok (.lload_n 0, 1) := by decide +kernel
theorem dX9_isIn_7 : decode cX9_isIn 7 = .ok (.lload 4, 2) := by decide +kernel
theorem dX9_isIn_9 : decode cX9_isIn 9 = .ok (.lcmp, 1) := by decide +kernel
theorem dX9_isIn_10 : decode cX9_isIn 10 = .ok (.ifCond .gt 7, 3) := by decide +kernel
theorem dX9_isIn_13 : decode cX9_isIn 13 = .ok (.iconst 1, 1) := by decide +kernel
theorem dX9_isIn_14 : decode cX9_isIn 14 = .ok (.goto 4, 3) := by decide +kernel
theorem dX9_isIn_17 : decode cX9_isIn 17 = .ok (.iconst 0, 1) := by decide +kernel
theorem dX9_isIn_18 : decode cX9_isIn 18 = .ok (.ireturn, 1) := by decide +kernel
theorem dX9_has_0 : decode cX9_has 0 = .ok (.iload_n 0, 1) := by decide +kernel
theorem dX9_has_1 : decode cX9_has 1 = .ok (.iload_n 1, 1) := by decide +kernel
theorem dX9_has_2 : decode cX9_has 2 = .ok (.ishr, 1) := by decide +kernel
theorem dX9_has_3 : decode cX9_has 3 = .ok (.iconst 1, 1) := by decide +kernel
theorem dX9_has_4 : decode cX9_has 4 = .ok (.iand, 1) := by decide +kernel
theorem dX9_has_5 : decode cX9_has 5 = .ok (.iconst 1, 1) := by decide +kernel
theorem dX9_has_6 : decode cX9_has 6 = .ok (.if_icmp .ne 7, 3) := by decide +kernel
theorem dX9_has_9 : decode cX9_has 9 = .ok (.iconst 1, 1) := by decide +kernel
theorem dX9_has_10 : decode cX9_has 10 = .ok (.goto 4, 3) := by decide +kernel
theorem dX9_has_13 : decode cX9_has 13 = .ok (.iconst 0, 1) := by decide +kernel
theorem dX9_has_14 : decode cX9_has 14 = .ok (.ireturn, 1) := by decide +kernel
theorem dX9_isPoint_0 : decode cX9_isPoint 0 = .ok (.iload_n 1, 1) := by decide +kernel
theorem dX9_isPoint_1 : decode cX9_isPoint 1 = .ok (.i2l, 1) := by decide +kernel
theorem dX9_isPoint_2 : decode cX9_isPoint 2 = .ok (.lconst 0, 1) := by decide +kernel
theorem dX9_isPoint_3 : decode cX9_isPoint 3 = .ok (.aload_n 0, 1) := by decide +kernel
theorem dX9_isPoint_4 : decode cX9_isPoint 4 = .ok (.getfield 7, 3) := by decide +kernel
theorem dX9_isPoint_7 : decode cX9_isPoint 7 = .ok (.iconst 1, 1) := by decide +kernel
theorem dX9_isPoint_8 : decode cX9_isPoint 8 = .ok (.isub, 1) := by decide +kernel
theorem dX9_isPoint_9 : decode cX9_isPoint 9 = .ok (.i2l, 1) := by decide +kernel
theorem dX9_isPoint_10 : decode cX9_isPoint 10 = .ok (.invokestatic 116, 3) := by decide +kernel
theorem dX9_isPoint_13 : decode cX9_isPoint 13 = .ok (.ireturn, 1) := by decide +kernel
theorem dX9_isWay_0 : decode cX9_isWay 0 = .ok (.iload_n 1, 1) := by decide +kernel
theorem dX9_isWay_1 : decode cX9_isWay 1 = .ok (.i2l, 1) := by decide +kernel
theorem dX9_isWay_2 : decode cX9_isWay 2 = .ok (.lconst 0, 1) := by decide +kernel
theorem dX9_isWay_3 : decode cX9_isWay 3 = .ok (.aload_n 0, 1) := by decide +kernel
theorem dX9_isWay_4 : decode cX9_isWay 4 = .ok (.getfield 120, 3) := by decide +kernel
theorem dX9_isWay_7 : decode cX9_isWay 7 = .ok (.iconst 1, 1) := by decide +kernel
theorem dX9_isWay_8 : decode cX9_isWay 8 = .ok (.isub, 1) := by decide +kernel
theorem dX9_isWay_9 : decode cX9_isWay 9 = .ok (.i2l, 1) := by decide +kernel
theorem dX9_isWay_10 : decode cX9_isWay 10 = .ok (.invokestatic 116, 3) := by decide +kernel
theorem dX9_isWay_13 : decode cX9_isWay 13 = .ok (.ireturn, 1) := by decide +kernel
theorem dX9_no_0 : decode cX9_no 0 = .ok (.iload_n 1, 1) := by decide +kernel
theorem dX9_no_1 : decode cX9_no 1 = .ok (.bipush (-6), 2) := by decide +kernel
theorem dX9_no_3 : decode cX9_no 3 = .ok (.if_icmp .lt 14, 3) := by decide +kernel
theorem dX9_no_6 : decode cX9_no 6 = .ok (.aload_n 0, 1) := by decide +kernel
theorem dX9_no_7 : decode cX9_no 7 = .ok (.getfield 32, 3) := by decide +kernel
theorem dX9_no_10 : decode cX9_no 10 = .ok (.iload_n 1, 1) := by decide +kernel
theorem dX9_no_11 : decode cX9_no 11 = .ok (.ineg, 1) := by decide +kernel
theorem dX9_no_12 : decode cX9_no 12 = .ok (.dup2, 1) := by decide +kernel
theorem dX9_no_13 : decode cX9_no 13 = .ok (.iaload, 1) := by decide +kernel
theorem dX9_no_14 : decode cX9_no 14 = .ok (.iconst 1, 1) := by decide +kernel
theorem dX9_no_15 : decode cX9_no 15 = .ok (.iadd, 1) := by decide +kernel
theorem dX9_no_16 : decode cX9_no 16 = .ok (.iastore, 1) := by decide +kernel
theorem dX9_no_17 : decode cX9_no 17 = .ok (.iload_n 1, 1) := by decide +kernel
theorem dX9_no_18 : decode cX9_no 18 = .ok (.ireturn, 1) := by decide +kernel
theorem dX9_far_0 : decode cX9_far 0 = .ok (.ldc2_w 123, 3) := by decide +kernel
theorem dX9_far_3 : decode cX9_far 3 = .ok (.aload_n 0, 1) := by decide +kernel
theorem dX9_far_4 : decode cX9_far 4 = .ok (.iload_n 1, 1) := by decide +kernel
theorem dX9_far_5 : decode cX9_far 5 = .ok (.invokevirtual 125, 3) := by decide +kernel
theorem dX9_far_8 : decode cX9_far 8 = .ok (.i2l, 1) := by decide +kernel
theorem dX9_far_9 : decode cX9_far 9 = .ok (.lsub, 1) := by decide +kernel
theorem dX9_far_10 : decode cX9_far 10 = .ok (.lreturn, 1) := by decide +kernel
theorem dX9_weightBy_0 : decode cX9_weightBy 0 = .ok (.iload_n 0, 1) := by decide +kernel
theorem dX9_weightBy_1 : decode cX9_weightBy 1 = .ok (.tableswitch 68 1 4 #[31, 37, 41, 60], 31) := by decide +kernel
theorem dX9_weightBy_32 : decode cX9_weightBy 32 = .ok (.iload_n 2, 1) := by decide +kernel
theorem dX9_weightBy_33 : decode cX9_weightBy 33 = .ok (.iconst 1, 1) := by decide +kernel
theorem dX9_weightBy_34 : decode cX9_weightBy 34 = .ok (.iadd, 1) := by decide +kernel
theorem dX9_weightBy_35 : decode cX9_weightBy 35 = .ok (.iconst 2, 1) := by decide +kernel
theorem dX9_weightBy_36 : decode cX9_weightBy 36 = .ok (.idiv, 1) := by decide +kernel
theorem dX9_weightBy_37 : decode cX9_weightBy 37 = .ok (.ireturn, 1) := by decide +kernel
theorem dX9_weightBy_38 : decode cX9_weightBy 38 = .ok (.iconst 2, 1) := by decide +kernel
theorem dX9_weightBy_39 : decode cX9_weightBy 39 = .ok (.iload_n 2, 1) := by decide +kernel
theorem dX9_weightBy_40 : decode cX9_weightBy 40 = .ok (.imul, 1) := by decide +kernel
theorem dX9_weightBy_41 : decode cX9_weightBy 41 = .ok (.ireturn, 1) := by decide +kernel
theorem dX9_weightBy_42 : decode cX9_weightBy 42 = .ok (.iconst 2, 1) := by decide +kernel
theorem dX9_weightBy_43 : decode cX9_weightBy 43 = .ok (.iload_n 2, 1) := by decide +kernel
theorem dX9_weightBy_44 : decode cX9_weightBy 44 = .ok (.imul, 1) := by decide +kernel
theorem dX9_weightBy_45 : decode cX9_weightBy 45 = .ok (.iload_n 1, 1) := by decide +kernel
theorem dX9_weightBy_46 : decode cX9_weightBy 46 = .ok (.isub, 1) := by decide +kernel
theorem dX9_weightBy_47 : decode cX9_weightBy 47 = .ok (.iconst 1, 1) := by decide +kernel
theorem dX9_weightBy_48 : decode cX9_weightBy 48 = .ok (.if_icmp .ge 7, 3) := by decide +kernel
theorem dX9_weightBy_51 : decode cX9_weightBy 51 = .ok (.iconst 1, 1) := by decide +kernel
theorem dX9_weightBy_52 : decode cX9_weightBy 52 = .ok (.goto 8, 3) := by decide +kernel
theorem dX9_weightBy_55 : decode cX9_weightBy 55 = .ok (.iconst 2, 1) := by decide +kernel
theorem dX9_weightBy_56 : decode cX9_weightBy 56 = .ok (.iload_n 2, 1) := by decide +kernel
theorem dX9_weightBy_57 : decode cX9_weightBy 57 = .ok (.imul, 1) := by decide +kernel
theorem dX9_weightBy_58 : decode cX9_weightBy 58 = .ok (.iload_n 1, 1) := by decide +kernel
theorem dX9_weightBy_59 : decode cX9_weightBy 59 = .ok (.isub, 1) := by decide +kernel
theorem dX9_weightBy_60 : decode cX9_weightBy 60 = .ok (.ireturn, 1) := by decide +kernel
theorem dX9_weightBy_61 : decode cX9_weightBy 61 = .ok (.iload_n 2, 1) := by decide +kernel
theorem dX9_weightBy_62 : decode cX9_weightBy 62 = .ok (.iconst 1, 1) := by decide +kernel
theorem dX9_weightBy_63 : decode cX9_weightBy 63 = .ok (.iadd, 1) := by decide +kernel
theorem dX9_weightBy_64 : decode cX9_weightBy 64 = .ok (.iconst 2, 1) := by decide +kernel
theorem dX9_weightBy_65 : decode cX9_weightBy 65 = .ok (.idiv, 1) := by decide +kernel
theorem dX9_weightBy_66 : decode cX9_weightBy 66 = .ok (.iconst 1, 1) := by decide +kernel
theorem dX9_weightBy_67 : decode cX9_weightBy 67 = .ok (.iadd, 1) := by decide +kernel
theorem dX9_weightBy_68 : decode cX9_weightBy 68 = .ok (.ireturn, 1) := by decide +kernel
theorem dX9_weightBy_69 : decode cX9_weightBy 69 = .ok (.iload_n 2, 1) := by decide +kernel
theorem dX9_weightBy_70 : decode cX9_weightBy 70 = .ok (.ireturn, 1) := by decide +kernel
theorem dX9_weight_0 : decode cX9_weight 0 = .ok (.aload_n 0, 1) := by decide +kernel
theorem dX9_weight_1 : decode cX9_weight 1 = .ok (.getfield 20, 3) := by decide +kernel
theorem dX9_weight_4 : decode cX9_weight 4 = .ok (.iload_n 1, 1) := by decide +kernel
theorem dX9_weight_5 : decode cX9_weight 5 = .ok (.iaload, 1) := by decide +kernel
theorem dX9_weight_6 : decode cX9_weight 6 = .ok (.aload_n 0, 1) := by decide +kernel
theorem dX9_weight_7 : decode cX9_weight 7 = .ok (.getfield 23, 3) := by decide +kernel
theorem dX9_weight_10 : decode cX9_weight 10 = .ok (.iload_n 1, 1) := by decide +kernel
theorem dX9_weight_11 : decode cX9_weight 11 = .ok (.iaload, 1) := by decide +kernel
theorem dX9_weight_12 : decode cX9_weight 12 = .ok (.aload_n 0, 1) := by decide +kernel
theorem dX9_weight_13 : decode cX9_weight 13 = .ok (.getfield 26, 3) := by decide +kernel
theorem dX9_weight_16 : decode cX9_weight 16 = .ok (.iload_n 1, 1) := by decide +kernel
theorem dX9_weight_17 : decode cX9_weight 17 = .ok (.iaload, 1) := by decide +kernel
theorem dX9_weight_18 : decode cX9_weight 18 = .ok (.invokestatic 129, 3) := by decide +kernel
theorem dX9_weight_21 : decode cX9_weight 21 = .ok (.ireturn, 1) := by decide +kernel
theorem dX9_minutes_0 : decode cX9_minutes 0 = .ok (.aload_n 0, 1) := by decide +kernel
theorem dX9_minutes_1 : decode cX9_minutes 1 = .ok (.getfield 20, 3) := by decide +kernel
theorem dX9_minutes_4 : decode cX9_minutes 4 = .ok (.iload_n 1, 1) := by decide +kernel
theorem dX9_minutes_5 : decode cX9_minutes 5 = .ok (.iaload, 1) := by decide +kernel
theorem dX9_minutes_6 : decode cX9_minutes 6 = .ok (.tableswitch 55 2 5 #[30, 30, 41, 41], 30) := by decide +kernel
theorem dX9_minutes_36 : decode cX9_minutes 36 = .ok (.aload_n 0, 1) := by decide +kernel
theorem dX9_minutes_37 : decode cX9_minutes 37 = .ok (.getfield 29, 3) := by decide +kernel
theorem dX9_minutes_40 : decode cX9_minutes 40 = .ok (.iload_n 1, 1) := by decide +kernel
theorem dX9_minutes_41 : decode cX9_minutes 41 = .ok (.iaload, 1) := by decide +kernel
theorem dX9_minutes_42 : decode cX9_minutes 42 = .ok (.iconst 1, 1) := by decide +kernel
theorem dX9_minutes_43 : decode cX9_minutes 43 = .ok (.iadd, 1) := by decide +kernel
theorem dX9_minutes_44 : decode cX9_minutes 44 = .ok (.iconst 2, 1) := by decide +kernel
theorem dX9_minutes_45 : decode cX9_minutes 45 = .ok (.idiv, 1) := by decide +kernel
theorem dX9_minutes_46 : decode cX9_minutes 46 = .ok (.ireturn, 1) := by decide +kernel
theorem dX9_minutes_47 : decode cX9_minutes 47 = .ok (.aload_n 0, 1) := by decide +kernel
theorem dX9_minutes_48 : decode cX9_minutes 48 = .ok (.getfield 29, 3) := by decide +kernel
theorem dX9_minutes_51 : decode cX9_minutes 51 = .ok (.iload_n 1, 1) := by decide +kernel
theorem dX9_minutes_52 : decode cX9_minutes 52 = .ok (.iaload, 1) := by decide +kernel
theorem dX9_minutes_53 : decode cX9_minutes 53 = .ok (.aload_n 0, 1) := by decide +kernel
theorem dX9_minutes_54 : decode cX9_minutes 54 = .ok (.getfield 23, 3) := by decide +kernel
theorem dX9_minutes_57 : decode cX9_minutes 57 = .ok (.iload_n 1, 1) := by decide +kernel
theorem dX9_minutes_58 : decode cX9_minutes 58 = .ok (.iaload, 1) := by decide +kernel
theorem dX9_minutes_59 : decode cX9_minutes 59 = .ok (.iadd, 1) := by decide +kernel
theorem dX9_minutes_60 : decode cX9_minutes 60 = .ok (.ireturn, 1) := by decide +kernel
theorem dX9_minutes_61 : decode cX9_minutes 61 = .ok (.aload_n 0, 1) := by decide +kernel
theorem dX9_minutes_62 : decode cX9_minutes 62 = .ok (.getfield 29, 3) := by decide +kernel
theorem dX9_minutes_65 : decode cX9_minutes 65 = .ok (.iload_n 1, 1) := by decide +kernel
theorem dX9_minutes_66 : decode cX9_minutes 66 = .ok (.iaload, 1) := by decide +kernel
theorem dX9_minutes_67 : decode cX9_minutes 67 = .ok (.ireturn, 1) := by decide +kernel
theorem dX9_shifts_0 : decode cX9_shifts 0 = .ok (.aload_n 0, 1) := by decide +kernel
theorem dX9_shifts_1 : decode cX9_shifts 1 = .ok (.getfield 13, 3) := by decide +kernel
theorem dX9_shifts_4 : decode cX9_shifts 4 = .ok (.iload_n 1, 1) := by decide +kernel
theorem dX9_shifts_5 : decode cX9_shifts 5 = .ok (.aload_n 0, 1) := by decide +kernel
theorem dX9_shifts_6 : decode cX9_shifts 6 = .ok (.getfield 13, 3) := by decide +kernel
theorem dX9_shifts_9 : decode cX9_shifts 9 = .ok (.iload_n 2, 1) := by decide +kernel
theorem dX9_shifts_10 : decode cX9_shifts 10 = .ok (.iaload, 1) := by decide +kernel
theorem dX9_shifts_11 : decode cX9_shifts 11 = .ok (.iastore, 1) := by decide +kernel
theorem dX9_shifts_12 : decode cX9_shifts 12 = .ok (.aload_n 0, 1) := by decide +kernel
theorem dX9_shifts_13 : decode cX9_shifts 13 = .ok (.getfield 17, 3) := by decide +kernel
theorem dX9_shifts_16 : decode cX9_shifts 16 = .ok (.iload_n 1, 1) := by decide +kernel
theorem dX9_shifts_17 : decode cX9_shifts 17 = .ok (.aload_n 0, 1) := by decide +kernel
theorem dX9_shifts_18 : decode cX9_shifts 18 = .ok (.getfield 17, 3) := by decide +kernel
theorem dX9_shifts_21 : decode cX9_shifts 21 = .ok (.iload_n 2, 1) := by decide +kernel
theorem dX9_shifts_22 : decode cX9_shifts 22 = .ok (.iaload, 1) := by decide +kernel
theorem dX9_shifts_23 : decode cX9_shifts 23 = .ok (.iastore, 1) := by decide +kernel
theorem dX9_shifts_24 : decode cX9_shifts 24 = .ok (.aload_n 0, 1) := by decide +kernel
theorem dX9_shifts_25 : decode cX9_shifts 25 = .ok (.getfield 20, 3) := by decide +kernel
theorem dX9_shifts_28 : decode cX9_shifts 28 = .ok (.iload_n 1, 1) := by decide +kernel
theorem dX9_shifts_29 : decode cX9_shifts 29 = .ok (.aload_n 0, 1) := by decide +kernel
theorem dX9_shifts_30 : decode cX9_shifts 30 = .ok (.getfield 20, 3) := by decide +kernel
theorem dX9_shifts_33 : decode cX9_shifts 33 = .ok (.iload_n 2, 1) := by decide +kernel
theorem dX9_shifts_34 : decode cX9_shifts 34 = .ok (.iaload, 1) := by decide +kernel
theorem dX9_shifts_35 : decode cX9_shifts 35 = .ok (.iastore, 1) := by decide +kernel
theorem dX9_shifts_36 : decode cX9_shifts 36 = .ok (.aload_n 0, 1) := by decide +kernel
theorem dX9_shifts_37 : decode cX9_shifts 37 = .ok (.getfield 23, 3) := by decide +kernel
theorem dX9_shifts_40 : decode cX9_shifts 40 = .ok (.iload_n 1, 1) := by decide +kernel
theorem dX9_shifts_41 : decode cX9_shifts 41 = .ok (.aload_n 0, 1) := by decide +kernel
theorem dX9_shifts_42 : decode cX9_shifts 42 = .ok (.getfield 23, 3) := by decide +kernel
theorem dX9_shifts_45 : decode cX9_shifts 45 = .ok (.iload_n 2, 1) := by decide +kernel
theorem dX9_shifts_46 : decode cX9_shifts 46 = .ok (.iaload, 1) := by decide +kernel
theorem dX9_shifts_47 : decode cX9_shifts 47 = .ok (.iastore, 1) := by decide +kernel
theorem dX9_shifts_48 : decode cX9_shifts 48 = .ok (.aload_n 0, 1) := by decide +kernel
theorem dX9_shifts_49 : decode cX9_shifts 49 = .ok (.getfield 26, 3) := by decide +kernel
theorem dX9_shifts_52 : decode cX9_shifts 52 = .ok (.iload_n 1, 1) := by decide +kernel
theorem dX9_shifts_53 : decode cX9_shifts 53 = .ok (.aload_n 0, 1) := by decide +kernel
theorem dX9_shifts_54 : decode cX9_shifts 54 = .ok (.getfield 26, 3) := by decide +kernel
theorem dX9_shifts_57 : decode cX9_shifts 57 = .ok (.iload_n 2, 1) := by decide +kernel
theorem dX9_shifts_58 : decode cX9_shifts 58 = .ok (.iaload, 1) := by decide +kernel
theorem dX9_shifts_59 : decode cX9_shifts 59 = .ok (.iastore, 1) := by decide +kernel
theorem dX9_shifts_60 : decode cX9_shifts 60 = .ok (.aload_n 0, 1) := by decide +kernel
theorem dX9_shifts_61 : decode cX9_shifts 61 = .ok (.getfield 29, 3) := by decide +kernel
theorem dX9_shifts_64 : decode cX9_shifts 64 = .ok (.iload_n 1, 1) := by decide +kernel
theorem dX9_shifts_65 : decode cX9_shifts 65 = .ok (.aload_n 0, 1) := by decide +kernel
theorem dX9_shifts_66 : decode cX9_shifts 66 = .ok (.getfield 29, 3) := by decide +kernel
theorem dX9_shifts_69 : decode cX9_shifts 69 = .ok (.iload_n 2, 1) := by decide +kernel
theorem dX9_shifts_70 : decode cX9_shifts 70 = .ok (.iaload, 1) := by decide +kernel
theorem dX9_shifts_71 : decode cX9_shifts 71 = .ok (.iastore, 1) := by decide +kernel
theorem dX9_shifts_72 : decode cX9_shifts 72 = .ok (.return_, 1) := by decide +kernel
theorem dX9_loses_0 : decode cX9_loses 0 = .ok (.aload_n 0, 1) := by decide +kernel
theorem dX9_loses_1 : decode cX9_loses 1 = .ok (.dup, 1) := by decide +kernel
theorem dX9_loses_2 : decode cX9_loses 2 = .ok (.getfield 120, 3) := by decide +kernel
theorem dX9_loses_5 : decode cX9_loses 5 = .ok (.iconst 1, 1) := by decide +kernel
theorem dX9_loses_6 : decode cX9_loses 6 = .ok (.isub, 1) := by decide +kernel
theorem dX9_loses_7 : decode cX9_loses 7 = .ok (.putfield 120, 3) := by decide +kernel
theorem dX9_loses_10 : decode cX9_loses 10 = .ok (.iload_n 1, 1) := by decide +kernel
theorem dX9_loses_11 : decode cX9_loses 11 = .ok (.istore_n 2, 1) := by decide +kernel
theorem dX9_loses_12 : decode cX9_loses 12 = .ok (.iload_n 2, 1) := by decide +kernel
theorem dX9_loses_13 : decode cX9_loses 13 = .ok (.aload_n 0, 1) := by decide +kernel
theorem dX9_loses_14 : decode cX9_loses 14 = .ok (.getfield 120, 3) := by decide +kernel
theorem dX9_loses_17 : decode cX9_loses 17 = .ok (.if_icmp .ge 17, 3) := by decide +kernel
theorem dX9_loses_20 : decode cX9_loses 20 = .ok (.aload_n 0, 1) := by decide +kernel
theorem dX9_loses_21 : decode cX9_loses 21 = .ok (.iload_n 2, 1) := by decide +kernel
theorem dX9_loses_22 : decode cX9_loses 22 = .ok (.iload_n 2, 1) := by decide +kernel
theorem dX9_loses_23 : decode cX9_loses 23 = .ok (.iconst 1, 1) := by decide +kernel
theorem dX9_loses_24 : decode cX9_loses 24 = .ok (.iadd, 1) := by decide +kernel
theorem dX9_loses_25 : decode cX9_loses 25 = .ok (.invokevirtual 133, 3) := by decide +kernel
theorem dX9_loses_28 : decode cX9_loses 28 = .ok (.iinc 2 1, 3) := by decide +kernel
theorem dX9_loses_31 : decode cX9_loses 31 = .ok (.goto (-19), 3) := by decide +kernel
theorem dX9_loses_34 : decode cX9_loses 34 = .ok (.return_, 1) := by decide +kernel
theorem dX9_becomes_0 : decode cX9_becomes 0 = .ok (.aload_n 0, 1) := by decide +kernel
theorem dX9_becomes_1 : decode cX9_becomes 1 = .ok (.iload_n 1, 1) := by decide +kernel
theorem dX9_becomes_2 : decode cX9_becomes 2 = .ok (.putfield 7, 3) := by decide +kernel
theorem dX9_becomes_5 : decode cX9_becomes 5 = .ok (.aload_n 0, 1) := by decide +kernel
theorem dX9_becomes_6 : decode cX9_becomes 6 = .ok (.getfield 120, 3) := by decide +kernel
theorem dX9_becomes_9 : decode cX9_becomes 9 = .ok (.iconst 1, 1) := by decide +kernel
theorem dX9_becomes_10 : decode cX9_becomes 10 = .ok (.isub, 1) := by decide +kernel
theorem dX9_becomes_11 : decode cX9_becomes 11 = .ok (.istore_n 2, 1) := by decide +kernel
theorem dX9_becomes_12 : decode cX9_becomes 12 = .ok (.iload_n 2, 1) := by decide +kernel
theorem dX9_becomes_13 : decode cX9_becomes 13 = .ok (.ifCond .lt 34, 3) := by decide +kernel
theorem dX9_becomes_16 : decode cX9_becomes 16 = .ok (.aload_n 0, 1) := by decide +kernel
theorem dX9_becomes_17 : decode cX9_becomes 17 = .ok (.getfield 13, 3) := by decide +kernel
theorem dX9_becomes_20 : decode cX9_becomes 20 = .ok (.iload_n 2, 1) := by decide +kernel
theorem dX9_becomes_21 : decode cX9_becomes 21 = .ok (.iaload, 1) := by decide +kernel
theorem dX9_becomes_22 : decode cX9_becomes 22 = .ok (.iload_n 1, 1) := by decide +kernel
theorem dX9_becomes_23 : decode cX9_becomes 23 = .ok (.if_icmp .ge 13, 3) := by decide +kernel
theorem dX9_becomes_26 : decode cX9_becomes 26 = .ok (.aload_n 0, 1) := by decide +kernel
theorem dX9_becomes_27 : decode cX9_becomes 27 = .ok (.getfield 17, 3) := by decide +kernel
theorem dX9_becomes_30 : decode cX9_becomes 30 = .ok (.iload_n 2, 1) := by decide +kernel
theorem dX9_becomes_31 : decode cX9_becomes 31 = .ok (.iaload, 1) := by decide +kernel
theorem dX9_becomes_32 : decode cX9_becomes 32 = .ok (.iload_n 1, 1) := by decide +kernel
theorem dX9_becomes_33 : decode cX9_becomes 33 = .ok (.if_icmp .lt 8, 3) := by decide +kernel
theorem dX9_becomes_36 : decode cX9_becomes 36 = .ok (.aload_n 0, 1) := by decide +kernel
theorem dX9_becomes_37 : decode cX9_becomes 37 = .ok (.iload_n 2, 1) := by decide +kernel
theorem dX9_becomes_38 : decode cX9_becomes 38 = .ok (.invokevirtual 137, 3) := by decide +kernel
theorem dX9_becomes_41 : decode cX9_becomes 41 = .ok (.iinc 2 (-1), 3) := by decide +kernel
theorem dX9_becomes_44 : decode cX9_becomes 44 = .ok (.goto (-32), 3) := by decide +kernel
theorem dX9_becomes_47 : decode cX9_becomes 47 = .ok (.return_, 1) := by decide +kernel
theorem dX9_comes_0 : decode cX9_comes 0 = .ok (.aload_n 0, 1) := by decide +kernel
theorem dX9_comes_1 : decode cX9_comes 1 = .ok (.getfield 13, 3) := by decide +kernel
theorem dX9_comes_4 : decode cX9_comes 4 = .ok (.aload_n 0, 1) := by decide +kernel
theorem dX9_comes_5 : decode cX9_comes 5 = .ok (.getfield 120, 3) := by decide +kernel
theorem dX9_comes_8 : decode cX9_comes 8 = .ok (.iload_n 1, 1) := by decide +kernel
theorem dX9_comes_9 : decode cX9_comes 9 = .ok (.iastore, 1) := by decide +kernel
theorem dX9_comes_10 : decode cX9_comes 10 = .ok (.aload_n 0, 1) := by decide +kernel
theorem dX9_comes_11 : decode cX9_comes 11 = .ok (.getfield 17, 3) := by decide +kernel
theorem dX9_comes_14 : decode cX9_comes 14 = .ok (.aload_n 0, 1) := by decide +kernel
theorem dX9_comes_15 : decode cX9_comes 15 = .ok (.getfield 120, 3) := by decide +kernel
theorem dX9_comes_18 : decode cX9_comes 18 = .ok (.iload_n 2, 1) := by decide +kernel
theorem dX9_comes_19 : decode cX9_comes 19 = .ok (.iastore, 1) := by decide +kernel
theorem dX9_comes_20 : decode cX9_comes 20 = .ok (.aload_n 0, 1) := by decide +kernel
theorem dX9_comes_21 : decode cX9_comes 21 = .ok (.getfield 20, 3) := by decide +kernel
theorem dX9_comes_24 : decode cX9_comes 24 = .ok (.aload_n 0, 1) := by decide +kernel
theorem dX9_comes_25 : decode cX9_comes 25 = .ok (.getfield 120, 3) := by decide +kernel
theorem dX9_comes_28 : decode cX9_comes 28 = .ok (.iconst 0, 1) := by decide +kernel
theorem dX9_comes_29 : decode cX9_comes 29 = .ok (.iastore, 1) := by decide +kernel
theorem dX9_comes_30 : decode cX9_comes 30 = .ok (.aload_n 0, 1) := by decide +kernel
theorem dX9_comes_31 : decode cX9_comes 31 = .ok (.getfield 23, 3) := by decide +kernel
theorem dX9_comes_34 : decode cX9_comes 34 = .ok (.aload_n 0, 1) := by decide +kernel
theorem dX9_comes_35 : decode cX9_comes 35 = .ok (.getfield 120, 3) := by decide +kernel
theorem dX9_comes_38 : decode cX9_comes 38 = .ok (.iconst 0, 1) := by decide +kernel
theorem dX9_comes_39 : decode cX9_comes 39 = .ok (.iastore, 1) := by decide +kernel
theorem dX9_comes_40 : decode cX9_comes 40 = .ok (.aload_n 0, 1) := by decide +kernel
theorem dX9_comes_41 : decode cX9_comes 41 = .ok (.getfield 26, 3) := by decide +kernel
theorem dX9_comes_44 : decode cX9_comes 44 = .ok (.aload_n 0, 1) := by decide +kernel
theorem dX9_comes_45 : decode cX9_comes 45 = .ok (.getfield 120, 3) := by decide +kernel
theorem dX9_comes_48 : decode cX9_comes 48 = .ok (.iload_n 3, 1) := by decide +kernel
theorem dX9_comes_49 : decode cX9_comes 49 = .ok (.iastore, 1) := by decide +kernel
theorem dX9_comes_50 : decode cX9_comes 50 = .ok (.aload_n 0, 1) := by decide +kernel
theorem dX9_comes_51 : decode cX9_comes 51 = .ok (.getfield 29, 3) := by decide +kernel
theorem dX9_comes_54 : decode cX9_comes 54 = .ok (.aload_n 0, 1) := by decide +kernel
theorem dX9_comes_55 : decode cX9_comes 55 = .ok (.getfield 120, 3) := by decide +kernel
theorem dX9_comes_58 : decode cX9_comes 58 = .ok (.iload 4, 2) := by decide +kernel
theorem dX9_comes_60 : decode cX9_comes 60 = .ok (.iastore, 1) := by decide +kernel
theorem dX9_comes_61 : decode cX9_comes 61 = .ok (.aload_n 0, 1) := by decide +kernel
theorem dX9_comes_62 : decode cX9_comes 62 = .ok (.dup, 1) := by decide +kernel
theorem dX9_comes_63 : decode cX9_comes 63 = .ok (.getfield 120, 3) := by decide +kernel
theorem dX9_comes_66 : decode cX9_comes 66 = .ok (.iconst 1, 1) := by decide +kernel
theorem dX9_comes_67 : decode cX9_comes 67 = .ok (.iadd, 1) := by decide +kernel
theorem dX9_comes_68 : decode cX9_comes 68 = .ok (.putfield 120, 3) := by decide +kernel
theorem dX9_comes_71 : decode cX9_comes 71 = .ok (.return_, 1) := by decide +kernel
theorem dX9_notPoints_0 : decode cX9_notPoints 0 = .ok (.iload_n 1, 1) := by decide +kernel
theorem dX9_notPoints_1 : decode cX9_notPoints 1 = .ok (.iconst 2, 1) := by decide +kernel
theorem dX9_notPoints_2 : decode cX9_notPoints 2 = .ok (.if_icmp .ge 8, 3) := by decide +kernel
theorem dX9_notPoints_5 : decode cX9_notPoints 5 = .ok (.bipush (-4), 2) := by decide +kernel
theorem dX9_notPoints_7 : decode cX9_notPoints 7 = .ok (.goto 15, 3) := by decide +kernel
theorem dX9_notPoints_10 : decode cX9_notPoints 10 = .ok (.iload_n 1, 1) := by decide +kernel
theorem dX9_notPoints_11 : decode cX9_notPoints 11 = .ok (.bipush 6, 2) := by decide +kernel
theorem dX9_notPoints_13 : decode cX9_notPoints 13 = .ok (.if_icmp .le 8, 3) := by decide +kernel
theorem dX9_notPoints_16 : decode cX9_notPoints 16 = .ok (.bipush (-6), 2) := by decide +kernel
theorem dX9_notPoints_18 : decode cX9_notPoints 18 = .ok (.goto 4, 3) := by decide +kernel
theorem dX9_notPoints_21 : decode cX9_notPoints 21 = .ok (.iconst 0, 1) := by decide +kernel
theorem dX9_notPoints_22 : decode cX9_notPoints 22 = .ok (.ireturn, 1) := by decide +kernel
theorem dX9_notWay_0 : decode cX9_notWay 0 = .ok (.aload_n 0, 1) := by decide +kernel
theorem dX9_notWay_1 : decode cX9_notWay 1 = .ok (.iload_n 1, 1) := by decide +kernel
theorem dX9_notWay_2 : decode cX9_notWay 2 = .ok (.invokevirtual 141, 3) := by decide +kernel
theorem dX9_notWay_5 : decode cX9_notWay 5 = .ok (.ifCond .eq 16, 3) := by decide +kernel
theorem dX9_notWay_8 : decode cX9_notWay 8 = .ok (.aload_n 0, 1) := by decide +kernel
theorem dX9_notWay_9 : decode cX9_notWay 9 = .ok (.iload_n 2, 1) := by decide +kernel
theorem dX9_notWay_10 : decode cX9_notWay 10 = .ok (.invokevirtual 141, 3) := by decide +kernel
theorem dX9_notWay_13 : decode cX9_notWay 13 = .ok (.ifCond .eq 8, 3) := by decide +kernel
theorem dX9_notWay_16 : decode cX9_notWay 16 = .ok (.iload_n 1, 1) := by decide +kernel
theorem dX9_notWay_17 : decode cX9_notWay 17 = .ok (.iload_n 2, 1) := by decide +kernel
theorem dX9_notWay_18 : decode cX9_notWay 18 = .ok (.if_icmp .ne 5, 3) := by decide +kernel
theorem dX9_notWay_21 : decode cX9_notWay 21 = .ok (.iconst (-1), 1) := by decide +kernel
theorem dX9_notWay_22 : decode cX9_notWay 22 = .ok (.ireturn, 1) := by decide +kernel
theorem dX9_notWay_23 : decode cX9_notWay 23 = .ok (.iload_n 3, 1) := by decide +kernel
theorem dX9_notWay_24 : decode cX9_notWay 24 = .ok (.iconst 1, 1) := by decide +kernel
theorem dX9_notWay_25 : decode cX9_notWay 25 = .ok (.if_icmp .lt 9, 3) := by decide +kernel
theorem dX9_notWay_28 : decode cX9_notWay 28 = .ok (.iload 4, 2) := by decide +kernel
theorem dX9_notWay_30 : decode cX9_notWay 30 = .ok (.iconst 1, 1) := by decide +kernel
theorem dX9_notWay_31 : decode cX9_notWay 31 = .ok (.if_icmp .ge 6, 3) := by decide +kernel
theorem dX9_notWay_34 : decode cX9_notWay 34 = .ok (.bipush (-4), 2) := by decide +kernel
theorem dX9_notWay_36 : decode cX9_notWay 36 = .ok (.ireturn, 1) := by decide +kernel
theorem dX9_notWay_37 : decode cX9_notWay 37 = .ok (.iload_n 3, 1) := by decide +kernel
theorem dX9_notWay_38 : decode cX9_notWay 38 = .ok (.bipush 9, 2) := by decide +kernel
theorem dX9_notWay_40 : decode cX9_notWay 40 = .ok (.if_icmp .gt 19, 3) := by decide +kernel
theorem dX9_notWay_43 : decode cX9_notWay 43 = .ok (.iload 4, 2) := by decide +kernel
theorem dX9_notWay_45 : decode cX9_notWay 45 = .ok (.bipush 9, 2) := by decide +kernel
theorem dX9_notWay_47 : decode cX9_notWay 47 = .ok (.if_icmp .gt 12, 3) := by decide +kernel
theorem dX9_notWay_50 : decode cX9_notWay 50 = .ok (.aload_n 0, 1) := by decide +kernel
theorem dX9_notWay_51 : decode cX9_notWay 51 = .ok (.getfield 120, 3) := by decide +kernel
theorem dX9_notWay_54 : decode cX9_notWay 54 = .ok (.bipush 10, 2) := by decide +kernel
theorem dX9_notWay_56 : decode cX9_notWay 56 = .ok (.if_icmp .ne 8, 3) := by decide +kernel
theorem dX9_notWay_59 : decode cX9_notWay 59 = .ok (.bipush (-6), 2) := by decide +kernel
theorem dX9_notWay_61 : decode cX9_notWay 61 = .ok (.goto 4, 3) := by decide +kernel
theorem dX9_notWay_64 : decode cX9_notWay 64 = .ok (.iconst 0, 1) := by decide +kernel
theorem dX9_notWay_65 : decode cX9_notWay 65 = .ok (.ireturn, 1) := by decide +kernel
theorem dX9_notKind_0 : decode cX9_notKind 0 = .ok (.aload_n 0, 1) := by decide +kernel
theorem dX9_notKind_1 : decode cX9_notKind 1 = .ok (.iload_n 1, 1) := by decide +kernel
theorem dX9_notKind_2 : decode cX9_notKind 2 = .ok (.invokevirtual 145, 3) := by decide +kernel
theorem dX9_notKind_5 : decode cX9_notKind 5 = .ok (.ifCond .ne 5, 3) := by decide +kernel
theorem dX9_notKind_8 : decode cX9_notKind 8 = .ok (.iconst (-1), 1) := by decide +kernel
theorem dX9_notKind_9 : decode cX9_notKind 9 = .ok (.ireturn, 1) := by decide +kernel
theorem dX9_notKind_10 : decode cX9_notKind 10 = .ok (.iload_n 2, 1) := by decide +kernel
theorem dX9_notKind_11 : decode cX9_notKind 11 = .ok (.i2l, 1) := by decide +kernel
theorem dX9_notKind_12 : decode cX9_notKind 12 = .ok (.lconst 0, 1) := by decide +kernel
theorem dX9_notKind_13 : decode cX9_notKind 13 = .ok (.ldc2_w 148, 3) := by decide +kernel
theorem dX9_notKind_16 : decode cX9_notKind 16 = .ok (.invokestatic 116, 3) := by decide +kernel
theorem dX9_notKind_19 : decode cX9_notKind 19 = .ok (.ifCond .ne 6, 3) := by decide +kernel
theorem dX9_notKind_22 : decode cX9_notKind 22 = .ok (.bipush (-2), 2) := by decide +kernel
theorem dX9_notKind_24 : decode cX9_notKind 24 = .ok (.ireturn, 1) := by decide +kernel
theorem dX9_notKind_25 : decode cX9_notKind 25 = .ok (.iload_n 3, 1) := by decide +kernel
theorem dX9_notKind_26 : decode cX9_notKind 26 = .ok (.ifCond .ge 8, 3) := by decide +kernel
theorem dX9_notKind_29 : decode cX9_notKind 29 = .ok (.bipush (-4), 2) := by decide +kernel
theorem dX9_notKind_31 : decode cX9_notKind 31 = .ok (.goto 15, 3) := by decide +kernel
theorem dX9_notKind_34 : decode cX9_notKind 34 = .ok (.iload_n 3, 1) := by decide +kernel
theorem dX9_notKind_35 : decode cX9_notKind 35 = .ok (.bipush 9, 2) := by decide +kernel
theorem dX9_notKind_37 : decode cX9_notKind 37 = .ok (.if_icmp .le 8, 3) := by decide +kernel
theorem dX9_notKind_40 : decode cX9_notKind 40 = .ok (.bipush (-6), 2) := by decide +kernel
theorem dX9_notKind_42 : decode cX9_notKind 42 = .ok (.goto 4, 3) := by decide +kernel
theorem dX9_notKind_45 : decode cX9_notKind 45 = .ok (.iconst 0, 1) := by decide +kernel
theorem dX9_notKind_46 : decode cX9_notKind 46 = .ok (.ireturn, 1) := by decide +kernel
theorem dX9_notNumber_0 : decode cX9_notNumber 0 = .ok (.aload_n 0, 1) := by decide +kernel
theorem dX9_notNumber_1 : decode cX9_notNumber 1 = .ok (.iload_n 1, 1) := by decide +kernel
theorem dX9_notNumber_2 : decode cX9_notNumber 2 = .ok (.invokevirtual 145, 3) := by decide +kernel
theorem dX9_notNumber_5 : decode cX9_notNumber 5 = .ok (.ifCond .ne 7, 3) := by decide +kernel
theorem dX9_notNumber_8 : decode cX9_notNumber 8 = .ok (.iconst (-1), 1) := by decide +kernel
theorem dX9_notNumber_9 : decode cX9_notNumber 9 = .ok (.goto 25, 3) := by decide +kernel
theorem dX9_notNumber_12 : decode cX9_notNumber 12 = .ok (.iload_n 2, 1) := by decide +kernel
theorem dX9_notNumber_13 : decode cX9_notNumber 13 = .ok (.iconst 1, 1) := by decide +kernel
theorem dX9_notNumber_14 : decode cX9_notNumber 14 = .ok (.if_icmp .ge 8, 3) := by decide +kernel
theorem dX9_notNumber_17 : decode cX9_notNumber 17 = .ok (.bipush (-4), 2) := by decide +kernel
theorem dX9_notNumber_19 : decode cX9_notNumber 19 = .ok (.goto 15, 3) := by decide +kernel
theorem dX9_notNumber_22 : decode cX9_notNumber 22 = .ok (.iload_n 2, 1) := by decide +kernel
theorem dX9_notNumber_23 : decode cX9_notNumber 23 = .ok (.bipush 9, 2) := by decide +kernel
theorem dX9_notNumber_25 : decode cX9_notNumber 25 = .ok (.if_icmp .le 8, 3) := by decide +kernel
theorem dX9_notNumber_28 : decode cX9_notNumber 28 = .ok (.bipush (-6), 2) := by decide +kernel
theorem dX9_notNumber_30 : decode cX9_notNumber 30 = .ok (.goto 4, 3) := by decide +kernel
theorem dX9_notNumber_33 : decode cX9_notNumber 33 = .ok (.iconst 0, 1) := by decide +kernel
theorem dX9_notNumber_34 : decode cX9_notNumber 34 = .ok (.ireturn, 1) := by decide +kernel
theorem dX9_points_0 : decode cX9_points 0 = .ok (.aload_n 0, 1) := by decide +kernel
theorem dX9_points_1 : decode cX9_points 1 = .ok (.iload_n 1, 1) := by decide +kernel
theorem dX9_points_2 : decode cX9_points 2 = .ok (.invokevirtual 150, 3) := by decide +kernel
theorem dX9_points_5 : decode cX9_points 5 = .ok (.istore_n 2, 1) := by decide +kernel
theorem dX9_points_6 : decode cX9_points 6 = .ok (.iload_n 2, 1) := by decide +kernel
theorem dX9_points_7 : decode cX9_points 7 = .ok (.ifCond .eq 9, 3) := by decide +kernel
theorem dX9_points_10 : decode cX9_points 10 = .ok (.aload_n 0, 1) := by decide +kernel
theorem dX9_points_11 : decode cX9_points 11 = .ok (.iload_n 2, 1) := by decide +kernel
theorem dX9_points_12 : decode cX9_points 12 = .ok (.invokevirtual 125, 3) := by decide +kernel
theorem dX9_points_15 : decode cX9_points 15 = .ok (.ireturn, 1) := by decide +kernel
theorem dX9_points_16 : decode cX9_points 16 = .ok (.aload_n 0, 1) := by decide +kernel
theorem dX9_points_17 : decode cX9_points 17 = .ok (.getfield 7, 3) := by decide +kernel
theorem dX9_points_20 : decode cX9_points 20 = .ok (.istore_n 3, 1) := by decide +kernel
theorem dX9_points_21 : decode cX9_points 21 = .ok (.aload_n 0, 1) := by decide +kernel
theorem dX9_points_22 : decode cX9_points 22 = .ok (.iload_n 1, 1) := by decide +kernel
theorem dX9_points_23 : decode cX9_points 23 = .ok (.invokevirtual 153, 3) := by decide +kernel
theorem dX9_points_26 : decode cX9_points 26 = .ok (.iload_n 3, 1) := by decide +kernel
theorem dX9_points_27 : decode cX9_points 27 = .ok (.ireturn, 1) := by decide +kernel
theorem dX9_way_0 : decode cX9_way 0 = .ok (.aload_n 0, 1) := by decide +kernel
theorem dX9_way_1 : decode cX9_way 1 = .ok (.iload_n 1, 1) := by decide +kernel
theorem dX9_way_2 : decode cX9_way 2 = .ok (.iload_n 2, 1) := by decide +kernel
theorem dX9_way_3 : decode cX9_way 3 = .ok (.iload_n 3, 1) := by decide +kernel
theorem dX9_way_4 : decode cX9_way 4 = .ok (.iload 4, 2) := by decide +kernel
theorem dX9_way_6 : decode cX9_way 6 = .ok (.invokevirtual 156, 3) := by decide +kernel
theorem dX9_way_9 : decode cX9_way 9 = .ok (.istore 5, 2) := by decide +kernel
theorem dX9_way_11 : decode cX9_way 11 = .ok (.iload 5, 2) := by decide +kernel
theorem dX9_way_13 : decode cX9_way 13 = .ok (.ifCond .eq 10, 3) := by decide +kernel
theorem dX9_way_16 : decode cX9_way 16 = .ok (.aload_n 0, 1) := by decide +kernel
theorem dX9_way_17 : decode cX9_way 17 = .ok (.iload 5, 2) := by decide +kernel
theorem dX9_way_19 : decode cX9_way 19 = .ok (.invokevirtual 125, 3) := by decide +kernel
theorem dX9_way_22 : decode cX9_way 22 = .ok (.ireturn, 1) := by decide +kernel
theorem dX9_way_23 : decode cX9_way 23 = .ok (.aload_n 0, 1) := by decide +kernel
theorem dX9_way_24 : decode cX9_way 24 = .ok (.iload_n 1, 1) := by decide +kernel
theorem dX9_way_25 : decode cX9_way 25 = .ok (.iload_n 2, 1) := by decide +kernel
theorem dX9_way_26 : decode cX9_way 26 = .ok (.iload_n 3, 1) := by decide +kernel
theorem dX9_way_27 : decode cX9_way 27 = .ok (.iload 4, 2) := by decide +kernel
theorem dX9_way_29 : decode cX9_way 29 = .ok (.invokevirtual 160, 3) := by decide +kernel
theorem dX9_way_32 : decode cX9_way 32 = .ok (.aload_n 0, 1) := by decide +kernel
theorem dX9_way_33 : decode cX9_way 33 = .ok (.getfield 120, 3) := by decide +kernel
theorem dX9_way_36 : decode cX9_way 36 = .ok (.iconst 1, 1) := by decide +kernel
theorem dX9_way_37 : decode cX9_way 37 = .ok (.isub, 1) := by decide +kernel
theorem dX9_way_38 : decode cX9_way 38 = .ok (.ireturn, 1) := by decide +kernel
theorem dX9_kind_0 : decode cX9_kind 0 = .ok (.aload_n 0, 1) := by decide +kernel
theorem dX9_kind_1 : decode cX9_kind 1 = .ok (.iload_n 1, 1) := by decide +kernel
theorem dX9_kind_2 : decode cX9_kind 2 = .ok (.iload_n 2, 1) := by decide +kernel
theorem dX9_kind_3 : decode cX9_kind 3 = .ok (.iload_n 3, 1) := by decide +kernel
theorem dX9_kind_4 : decode cX9_kind 4 = .ok (.invokevirtual 164, 3) := by decide +kernel
theorem dX9_kind_7 : decode cX9_kind 7 = .ok (.istore 4, 2) := by decide +kernel
theorem dX9_kind_9 : decode cX9_kind 9 = .ok (.iload 4, 2) := by decide +kernel
theorem dX9_kind_11 : decode cX9_kind 11 = .ok (.ifCond .eq 10, 3) := by decide +kernel
theorem dX9_kind_14 : decode cX9_kind 14 = .ok (.aload_n 0, 1) := by decide +kernel
theorem dX9_kind_15 : decode cX9_kind 15 = .ok (.iload 4, 2) := by decide +kernel
theorem dX9_kind_17 : decode cX9_kind 17 = .ok (.invokevirtual 125, 3) := by decide +kernel
theorem dX9_kind_20 : decode cX9_kind 20 = .ok (.ireturn, 1) := by decide +kernel
theorem dX9_kind_21 : decode cX9_kind 21 = .ok (.bipush 10, 2) := by decide +kernel
theorem dX9_kind_23 : decode cX9_kind 23 = .ok (.aload_n 0, 1) := by decide +kernel
theorem dX9_kind_24 : decode cX9_kind 24 = .ok (.getfield 20, 3) := by decide +kernel
theorem dX9_kind_27 : decode cX9_kind 27 = .ok (.iload_n 1, 1) := by decide +kernel
theorem dX9_kind_28 : decode cX9_kind 28 = .ok (.iaload, 1) := by decide +kernel
theorem dX9_kind_29 : decode cX9_kind 29 = .ok (.imul, 1) := by decide +kernel
theorem dX9_kind_30 : decode cX9_kind 30 = .ok (.aload_n 0, 1) := by decide +kernel
theorem dX9_kind_31 : decode cX9_kind 31 = .ok (.getfield 23, 3) := by decide +kernel
theorem dX9_kind_34 : decode cX9_kind 34 = .ok (.iload_n 1, 1) := by decide +kernel
theorem dX9_kind_35 : decode cX9_kind 35 = .ok (.iaload, 1) := by decide +kernel
theorem dX9_kind_36 : decode cX9_kind 36 = .ok (.iadd, 1) := by decide +kernel
theorem dX9_kind_37 : decode cX9_kind 37 = .ok (.istore 5, 2) := by decide +kernel
theorem dX9_kind_39 : decode cX9_kind 39 = .ok (.aload_n 0, 1) := by decide +kernel
theorem dX9_kind_40 : decode cX9_kind 40 = .ok (.getfield 20, 3) := by decide +kernel
theorem dX9_kind_43 : decode cX9_kind 43 = .ok (.iload_n 1, 1) := by decide +kernel
theorem dX9_kind_44 : decode cX9_kind 44 = .ok (.iload_n 2, 1) := by decide +kernel
theorem dX9_kind_45 : decode cX9_kind 45 = .ok (.iastore, 1) := by decide +kernel
theorem dX9_kind_46 : decode cX9_kind 46 = .ok (.aload_n 0, 1) := by decide +kernel
theorem dX9_kind_47 : decode cX9_kind 47 = .ok (.getfield 23, 3) := by decide +kernel
theorem dX9_kind_50 : decode cX9_kind 50 = .ok (.iload_n 1, 1) := by decide +kernel
theorem dX9_kind_51 : decode cX9_kind 51 = .ok (.iload_n 3, 1) := by decide +kernel
theorem dX9_kind_52 : decode cX9_kind 52 = .ok (.iastore, 1) := by decide +kernel
theorem dX9_kind_53 : decode cX9_kind 53 = .ok (.iload 5, 2) := by decide +kernel
theorem dX9_kind_55 : decode cX9_kind 55 = .ok (.ireturn, 1) := by decide +kernel
theorem dX9_load_0 : decode cX9_load 0 = .ok (.aload_n 0, 1) := by decide +kernel
theorem dX9_load_1 : decode cX9_load 1 = .ok (.iload_n 1, 1) := by decide +kernel
theorem dX9_load_2 : decode cX9_load 2 = .ok (.iload_n 2, 1) := by decide +kernel
theorem dX9_load_3 : decode cX9_load 3 = .ok (.invokevirtual 167, 3) := by decide +kernel
theorem dX9_load_6 : decode cX9_load 6 = .ok (.istore_n 3, 1) := by decide +kernel
theorem dX9_load_7 : decode cX9_load 7 = .ok (.iload_n 3, 1) := by decide +kernel
theorem dX9_load_8 : decode cX9_load 8 = .ok (.ifCond .eq 9, 3) := by decide +kernel
theorem dX9_load_11 : decode cX9_load 11 = .ok (.aload_n 0, 1) := by decide +kernel
theorem dX9_load_12 : decode cX9_load 12 = .ok (.iload_n 3, 1) := by decide +kernel
theorem dX9_load_13 : decode cX9_load 13 = .ok (.invokevirtual 125, 3) := by decide +kernel
theorem dX9_load_16 : decode cX9_load 16 = .ok (.ireturn, 1) := by decide +kernel
theorem dX9_load_17 : decode cX9_load 17 = .ok (.aload_n 0, 1) := by decide +kernel
theorem dX9_load_18 : decode cX9_load 18 = .ok (.getfield 26, 3) := by decide +kernel
theorem dX9_load_21 : decode cX9_load 21 = .ok (.iload_n 1, 1) := by decide +kernel
theorem dX9_load_22 : decode cX9_load 22 = .ok (.iaload, 1) := by decide +kernel
theorem dX9_load_23 : decode cX9_load 23 = .ok (.istore 4, 2) := by decide +kernel
theorem dX9_load_25 : decode cX9_load 25 = .ok (.aload_n 0, 1) := by decide +kernel
theorem dX9_load_26 : decode cX9_load 26 = .ok (.getfield 26, 3) := by decide +kernel
theorem dX9_load_29 : decode cX9_load 29 = .ok (.iload_n 1, 1) := by decide +kernel
theorem dX9_load_30 : decode cX9_load 30 = .ok (.iload_n 2, 1) := by decide +kernel
theorem dX9_load_31 : decode cX9_load 31 = .ok (.iastore, 1) := by decide +kernel
theorem dX9_load_32 : decode cX9_load 32 = .ok (.iload 4, 2) := by decide +kernel
theorem dX9_load_34 : decode cX9_load 34 = .ok (.ireturn, 1) := by decide +kernel
theorem dX9_length_0 : decode cX9_length 0 = .ok (.aload_n 0, 1) := by decide +kernel
theorem dX9_length_1 : decode cX9_length 1 = .ok (.iload_n 1, 1) := by decide +kernel
theorem dX9_length_2 : decode cX9_length 2 = .ok (.iload_n 2, 1) := by decide +kernel
theorem dX9_length_3 : decode cX9_length 3 = .ok (.invokevirtual 167, 3) := by decide +kernel
theorem dX9_length_6 : decode cX9_length 6 = .ok (.istore_n 3, 1) := by decide +kernel
theorem dX9_length_7 : decode cX9_length 7 = .ok (.iload_n 3, 1) := by decide +kernel
theorem dX9_length_8 : decode cX9_length 8 = .ok (.ifCond .eq 9, 3) := by decide +kernel
theorem dX9_length_11 : decode cX9_length 11 = .ok (.aload_n 0, 1) := by decide +kernel
theorem dX9_length_12 : decode cX9_length 12 = .ok (.iload_n 3, 1) := by decide +kernel
theorem dX9_length_13 : decode cX9_length 13 = .ok (.invokevirtual 125, 3) := by decide +kernel
theorem dX9_length_16 : decode cX9_length 16 = .ok (.ireturn, 1) := by decide +kernel
theorem dX9_length_17 : decode cX9_length 17 = .ok (.aload_n 0, 1) := by decide +kernel
theorem dX9_length_18 : decode cX9_length 18 = .ok (.getfield 29, 3) := by decide +kernel
theorem dX9_length_21 : decode cX9_length 21 = .ok (.iload_n 1, 1) := by decide +kernel
theorem dX9_length_22 : decode cX9_length 22 = .ok (.iaload, 1) := by decide +kernel
theorem dX9_length_23 : decode cX9_length 23 = .ok (.istore 4, 2) := by decide +kernel
theorem dX9_length_25 : decode cX9_length 25 = .ok (.aload_n 0, 1) := by decide +kernel
theorem dX9_length_26 : decode cX9_length 26 = .ok (.getfield 29, 3) := by decide +kernel
theorem dX9_length_29 : decode cX9_length 29 = .ok (.iload_n 1, 1) := by decide +kernel
theorem dX9_length_30 : decode cX9_length 30 = .ok (.iload_n 2, 1) := by decide +kernel
theorem dX9_length_31 : decode cX9_length 31 = .ok (.iastore, 1) := by decide +kernel
theorem dX9_length_32 : decode cX9_length 32 = .ok (.iload 4, 2) := by decide +kernel
theorem dX9_length_34 : decode cX9_length 34 = .ok (.ireturn, 1) := by decide +kernel
theorem dX9_lose_0 : decode cX9_lose 0 = .ok (.aload_n 0, 1) := by decide +kernel
theorem dX9_lose_1 : decode cX9_lose 1 = .ok (.iload_n 1, 1) := by decide +kernel
theorem dX9_lose_2 : decode cX9_lose 2 = .ok (.invokevirtual 145, 3) := by decide +kernel
theorem dX9_lose_5 : decode cX9_lose 5 = .ok (.ifCond .ne 9, 3) := by decide +kernel
theorem dX9_lose_8 : decode cX9_lose 8 = .ok (.aload_n 0, 1) := by decide +kernel
theorem dX9_lose_9 : decode cX9_lose 9 = .ok (.iconst (-1), 1) := by decide +kernel
theorem dX9_lose_10 : decode cX9_lose 10 = .ok (.invokevirtual 125, 3) := by decide +kernel
theorem dX9_lose_13 : decode cX9_lose 13 = .ok (.ireturn, 1) := by decide +kernel
theorem dX9_lose_14 : decode cX9_lose 14 = .ok (.aload_n 0, 1) := by decide +kernel
theorem dX9_lose_15 : decode cX9_lose 15 = .ok (.iload_n 1, 1) := by decide +kernel
theorem dX9_lose_16 : decode cX9_lose 16 = .ok (.invokevirtual 137, 3) := by decide +kernel
theorem dX9_lose_19 : decode cX9_lose 19 = .ok (.aload_n 0, 1) := by decide +kernel
theorem dX9_lose_20 : decode cX9_lose 20 = .ok (.getfield 120, 3) := by decide +kernel
theorem dX9_lose_23 : decode cX9_lose 23 = .ok (.ireturn, 1) := by decide +kernel
theorem dX9_of_0 : decode cX9_of 0 = .ok (.aload_n 0, 1) := by decide +kernel
theorem dX9_of_1 : decode cX9_of 1 = .ok (.iload_n 1, 1) := by decide +kernel
theorem dX9_of_2 : decode cX9_of 2 = .ok (.invokevirtual 145, 3) := by decide +kernel
theorem dX9_of_5 : decode cX9_of 5 = .ok (.ifCond .ne 9, 3) := by decide +kernel
theorem dX9_of_8 : decode cX9_of 8 = .ok (.aload_n 0, 1) := by decide +kernel
theorem dX9_of_9 : decode cX9_of 9 = .ok (.iconst (-1), 1) := by decide +kernel
theorem dX9_of_10 : decode cX9_of 10 = .ok (.invokevirtual 125, 3) := by decide +kernel
theorem dX9_of_13 : decode cX9_of 13 = .ok (.ireturn, 1) := by decide +kernel
theorem dX9_of_14 : decode cX9_of 14 = .ok (.iload_n 2, 1) := by decide +kernel
theorem dX9_of_15 : decode cX9_of 15 = .ok (.tableswitch 99 0 7 #[45, 52, 59, 66, 73, 80, 87, 93], 45) := by decide +kernel
theorem dX9_of_60 : decode cX9_of 60 = .ok (.aload_n 0, 1) := by decide +kernel
theorem dX9_of_61 : decode cX9_of 61 = .ok (.getfield 13, 3) := by decide +kernel
theorem dX9_of_64 : decode cX9_of 64 = .ok (.iload_n 1, 1) := by decide +kernel
theorem dX9_of_65 : decode cX9_of 65 = .ok (.iaload, 1) := by decide +kernel
theorem dX9_of_66 : decode cX9_of 66 = .ok (.ireturn, 1) := by decide +kernel
theorem dX9_of_67 : decode cX9_of 67 = .ok (.aload_n 0, 1) := by decide +kernel
theorem dX9_of_68 : decode cX9_of 68 = .ok (.getfield 17, 3) := by decide +kernel
theorem dX9_of_71 : decode cX9_of 71 = .ok (.iload_n 1, 1) := by decide +kernel
theorem dX9_of_72 : decode cX9_of 72 = .ok (.iaload, 1) := by decide +kernel
theorem dX9_of_73 : decode cX9_of 73 = .ok (.ireturn, 1) := by decide +kernel
theorem dX9_of_74 : decode cX9_of 74 = .ok (.aload_n 0, 1) := by decide +kernel
theorem dX9_of_75 : decode cX9_of 75 = .ok (.getfield 20, 3) := by decide +kernel
theorem dX9_of_78 : decode cX9_of 78 = .ok (.iload_n 1, 1) := by decide +kernel
theorem dX9_of_79 : decode cX9_of 79 = .ok (.iaload, 1) := by decide +kernel
theorem dX9_of_80 : decode cX9_of 80 = .ok (.ireturn, 1) := by decide +kernel
theorem dX9_of_81 : decode cX9_of 81 = .ok (.aload_n 0, 1) := by decide +kernel
theorem dX9_of_82 : decode cX9_of 82 = .ok (.getfield 23, 3) := by decide +kernel
theorem dX9_of_85 : decode cX9_of 85 = .ok (.iload_n 1, 1) := by decide +kernel
theorem dX9_of_86 : decode cX9_of 86 = .ok (.iaload, 1) := by decide +kernel
theorem dX9_of_87 : decode cX9_of 87 = .ok (.ireturn, 1) := by decide +kernel
theorem dX9_of_88 : decode cX9_of 88 = .ok (.aload_n 0, 1) := by decide +kernel
theorem dX9_of_89 : decode cX9_of 89 = .ok (.getfield 26, 3) := by decide +kernel
theorem dX9_of_92 : decode cX9_of 92 = .ok (.iload_n 1, 1) := by decide +kernel
theorem dX9_of_93 : decode cX9_of 93 = .ok (.iaload, 1) := by decide +kernel
theorem dX9_of_94 : decode cX9_of 94 = .ok (.ireturn, 1) := by decide +kernel
theorem dX9_of_95 : decode cX9_of 95 = .ok (.aload_n 0, 1) := by decide +kernel
theorem dX9_of_96 : decode cX9_of 96 = .ok (.getfield 29, 3) := by decide +kernel
theorem dX9_of_99 : decode cX9_of 99 = .ok (.iload_n 1, 1) := by decide +kernel
theorem dX9_of_100 : decode cX9_of 100 = .ok (.iaload, 1) := by decide +kernel
theorem dX9_of_101 : decode cX9_of 101 = .ok (.ireturn, 1) := by decide +kernel
theorem dX9_of_102 : decode cX9_of 102 = .ok (.aload_n 0, 1) := by decide +kernel
theorem dX9_of_103 : decode cX9_of 103 = .ok (.iload_n 1, 1) := by decide +kernel
theorem dX9_of_104 : decode cX9_of 104 = .ok (.invokevirtual 171, 3) := by decide +kernel
theorem dX9_of_107 : decode cX9_of 107 = .ok (.ireturn, 1) := by decide +kernel
theorem dX9_of_108 : decode cX9_of 108 = .ok (.aload_n 0, 1) := by decide +kernel
theorem dX9_of_109 : decode cX9_of 109 = .ok (.iload_n 1, 1) := by decide +kernel
theorem dX9_of_110 : decode cX9_of 110 = .ok (.invokevirtual 174, 3) := by decide +kernel
theorem dX9_of_113 : decode cX9_of 113 = .ok (.ireturn, 1) := by decide +kernel
theorem dX9_of_114 : decode cX9_of 114 = .ok (.aload_n 0, 1) := by decide +kernel
theorem dX9_of_115 : decode cX9_of 115 = .ok (.bipush (-2), 2) := by decide +kernel
theorem dX9_of_117 : decode cX9_of 117 = .ok (.invokevirtual 125, 3) := by decide +kernel
theorem dX9_of_120 : decode cX9_of 120 = .ok (.ireturn, 1) := by decide +kernel
theorem dX9_letter_0 : decode cX9_letter 0 = .ok (.iload_n 1, 1) := by decide +kernel
theorem dX9_letter_1 : decode cX9_letter 1 = .ok (.ifCond .ge 10, 3) := by decide +kernel
theorem dX9_letter_4 : decode cX9_letter 4 = .ok (.aload_n 0, 1) := by decide +kernel
theorem dX9_letter_5 : decode cX9_letter 5 = .ok (.bipush (-4), 2) := by decide +kernel
theorem dX9_letter_7 : decode cX9_letter 7 = .ok (.invokevirtual 125, 3) := by decide +kernel
theorem dX9_letter_10 : decode cX9_letter 10 = .ok (.ireturn, 1) := by decide +kernel
theorem dX9_letter_11 : decode cX9_letter 11 = .ok (.iload_n 1, 1) := by decide +kernel
theorem dX9_letter_12 : decode cX9_letter 12 = .ok (.sipush 255, 3) := by decide +kernel
theorem dX9_letter_15 : decode cX9_letter 15 = .ok (.if_icmp .gt 12, 3) := by decide +kernel
theorem dX9_letter_18 : decode cX9_letter 18 = .ok (.aload_n 0, 1) := by decide +kernel
theorem dX9_letter_19 : decode cX9_letter 19 = .ok (.getfield 177, 3) := by decide +kernel
theorem dX9_letter_22 : decode cX9_letter 22 = .ok (.bipush 120, 2) := by decide +kernel
theorem dX9_letter_24 : decode cX9_letter 24 = .ok (.if_icmp .ne 10, 3) := by decide +kernel
theorem dX9_letter_27 : decode cX9_letter 27 = .ok (.aload_n 0, 1) := by decide +kernel
theorem dX9_letter_28 : decode cX9_letter 28 = .ok (.bipush (-6), 2) := by decide +kernel
theorem dX9_letter_30 : decode cX9_letter 30 = .ok (.invokevirtual 125, 3) := by decide +kernel
theorem dX9_letter_33 : decode cX9_letter 33 = .ok (.ireturn, 1) := by decide +kernel
theorem dX9_letter_34 : decode cX9_letter 34 = .ok (.aload_n 0, 1) := by decide +kernel
theorem dX9_letter_35 : decode cX9_letter 35 = .ok (.getfield 35, 3) := by decide +kernel
theorem dX9_letter_38 : decode cX9_letter 38 = .ok (.aload_n 0, 1) := by decide +kernel
theorem dX9_letter_39 : decode cX9_letter 39 = .ok (.getfield 177, 3) := by decide +kernel
theorem dX9_letter_42 : decode cX9_letter 42 = .ok (.iload_n 1, 1) := by decide +kernel
theorem dX9_letter_43 : decode cX9_letter 43 = .ok (.iastore, 1) := by decide +kernel
theorem dX9_letter_44 : decode cX9_letter 44 = .ok (.aload_n 0, 1) := by decide +kernel
theorem dX9_letter_45 : decode cX9_letter 45 = .ok (.dup, 1) := by decide +kernel
theorem dX9_letter_46 : decode cX9_letter 46 = .ok (.getfield 177, 3) := by decide +kernel
theorem dX9_letter_49 : decode cX9_letter 49 = .ok (.iconst 1, 1) := by decide +kernel
theorem dX9_letter_50 : decode cX9_letter 50 = .ok (.iadd, 1) := by decide +kernel
theorem dX9_letter_51 : decode cX9_letter 51 = .ok (.putfield 177, 3) := by decide +kernel
theorem dX9_letter_54 : decode cX9_letter 54 = .ok (.aload_n 0, 1) := by decide +kernel
theorem dX9_letter_55 : decode cX9_letter 55 = .ok (.getfield 177, 3) := by decide +kernel
theorem dX9_letter_58 : decode cX9_letter 58 = .ok (.ireturn, 1) := by decide +kernel
theorem dX9_word_0 : decode cX9_word 0 = .ok (.iconst 0, 1) := by decide +kernel
theorem dX9_word_1 : decode cX9_word 1 = .ok (.istore_n 1, 1) := by decide +kernel
theorem dX9_word_2 : decode cX9_word 2 = .ok (.iconst 0, 1) := by decide +kernel
theorem dX9_word_3 : decode cX9_word 3 = .ok (.istore_n 2, 1) := by decide +kernel
theorem dX9_word_4 : decode cX9_word 4 = .ok (.iload_n 2, 1) := by decide +kernel
theorem dX9_word_5 : decode cX9_word 5 = .ok (.bipush 6, 2) := by decide +kernel
theorem dX9_word_7 : decode cX9_word 7 = .ok (.if_icmp .ge 98, 3) := by decide +kernel
theorem dX9_word_10 : decode cX9_word 10 = .ok (.iconst 0, 1) := by decide +kernel
theorem dX9_word_11 : decode cX9_word 11 = .ok (.istore_n 3, 1) := by decide +kernel
theorem dX9_word_12 : decode cX9_word 12 = .ok (.iload_n 3, 1) := by decide +kernel
theorem dX9_word_13 : decode cX9_word 13 = .ok (.aload_n 0, 1) := by decide +kernel
theorem dX9_word_14 : decode cX9_word 14 = .ok (.getfield 42, 3) := by decide +kernel
theorem dX9_word_17 : decode cX9_word 17 = .ok (.iload_n 2, 1) := by decide +kernel
theorem dX9_word_18 : decode cX9_word 18 = .ok (.iaload, 1) := by decide +kernel
theorem dX9_word_19 : decode cX9_word 19 = .ok (.if_icmp .ge 47, 3) := by decide +kernel
theorem dX9_word_22 : decode cX9_word 22 = .ok (.aload_n 0, 1) := by decide +kernel
theorem dX9_word_23 : decode cX9_word 23 = .ok (.getfield 180, 3) := by decide +kernel
theorem dX9_word_26 : decode cX9_word 26 = .ok (.iload_n 3, 1) := by decide +kernel
theorem dX9_word_27 : decode cX9_word 27 = .ok (.iadd, 1) := by decide +kernel
theorem dX9_word_28 : decode cX9_word 28 = .ok (.aload_n 0, 1) := by decide +kernel
theorem dX9_word_29 : decode cX9_word 29 = .ok (.getfield 177, 3) := by decide +kernel
theorem dX9_word_32 : decode cX9_word 32 = .ok (.if_icmp .ge 34, 3) := by decide +kernel
theorem dX9_word_35 : decode cX9_word 35 = .ok (.aload_n 0, 1) := by decide +kernel
theorem dX9_word_36 : decode cX9_word 36 = .ok (.getfield 35, 3) := by decide +kernel
theorem dX9_word_39 : decode cX9_word 39 = .ok (.aload_n 0, 1) := by decide +kernel
theorem dX9_word_40 : decode cX9_word 40 = .ok (.getfield 180, 3) := by decide +kernel
theorem dX9_word_43 : decode cX9_word 43 = .ok (.iload_n 3, 1) := by decide +kernel
theorem dX9_word_44 : decode cX9_word 44 = .ok (.iadd, 1) := by decide +kernel
theorem dX9_word_45 : decode cX9_word 45 = .ok (.iaload, 1) := by decide +kernel
theorem dX9_word_46 : decode cX9_word 46 = .ok (.aload_n 0, 1) := by decide +kernel
theorem dX9_word_47 : decode cX9_word 47 = .ok (.getfield 38, 3) := by decide +kernel
theorem dX9_word_50 : decode cX9_word 50 = .ok (.bipush 6, 2) := by decide +kernel
theorem dX9_word_52 : decode cX9_word 52 = .ok (.iload_n 2, 1) := by decide +kernel
theorem dX9_word_53 : decode cX9_word 53 = .ok (.imul, 1) := by decide +kernel
theorem dX9_word_54 : decode cX9_word 54 = .ok (.iload_n 3, 1) := by decide +kernel
theorem dX9_word_55 : decode cX9_word 55 = .ok (.iadd, 1) := by decide +kernel
theorem dX9_word_56 : decode cX9_word 56 = .ok (.caload, 1) := by decide +kernel
theorem dX9_word_57 : decode cX9_word 57 = .ok (.if_icmp .ne 9, 3) := by decide +kernel
theorem dX9_word_60 : decode cX9_word 60 = .ok (.iinc 3 1, 3) := by decide +kernel
theorem dX9_word_63 : decode cX9_word 63 = .ok (.goto (-51), 3) := by decide +kernel
theorem dX9_word_66 : decode cX9_word 66 = .ok (.iload_n 3, 1) := by decide +kernel
theorem dX9_word_67 : decode cX9_word 67 = .ok (.aload_n 0, 1) := by decide +kernel
theorem dX9_word_68 : decode cX9_word 68 = .ok (.getfield 42, 3) := by decide +kernel
theorem dX9_word_71 : decode cX9_word 71 = .ok (.iload_n 2, 1) := by decide +kernel
theorem dX9_word_72 : decode cX9_word 72 = .ok (.iaload, 1) := by decide +kernel
theorem dX9_word_73 : decode cX9_word 73 = .ok (.if_icmp .ne 15, 3) := by decide +kernel
theorem dX9_word_76 : decode cX9_word 76 = .ok (.aload_n 0, 1) := by decide +kernel
theorem dX9_word_77 : decode cX9_word 77 = .ok (.dup, 1) := by decide +kernel
theorem dX9_word_78 : decode cX9_word 78 = .ok (.getfield 180, 3) := by decide +kernel
theorem dX9_word_81 : decode cX9_word 81 = .ok (.iload_n 3, 1) := by decide +kernel
theorem dX9_word_82 : decode cX9_word 82 = .ok (.iadd, 1) := by decide +kernel
theorem dX9_word_83 : decode cX9_word 83 = .ok (.putfield 180, 3) := by decide +kernel
theorem dX9_word_86 : decode cX9_word 86 = .ok (.iload_n 2, 1) := by decide +kernel
theorem dX9_word_87 : decode cX9_word 87 = .ok (.ireturn, 1) := by decide +kernel
theorem dX9_word_88 : decode cX9_word 88 = .ok (.iload_n 3, 1) := by decide +kernel
theorem dX9_word_89 : decode cX9_word 89 = .ok (.iload_n 1, 1) := by decide +kernel
theorem dX9_word_90 : decode cX9_word 90 = .ok (.if_icmp .le 7, 3) := by decide +kernel
theorem dX9_word_93 : decode cX9_word 93 = .ok (.iload_n 3, 1) := by decide +kernel
theorem dX9_word_94 : decode cX9_word 94 = .ok (.goto 4, 3) := by decide +kernel
theorem dX9_word_97 : decode cX9_word 97 = .ok (.iload_n 1, 1) := by decide +kernel
theorem dX9_word_98 : decode cX9_word 98 = .ok (.istore_n 1, 1) := by decide +kernel
theorem dX9_word_99 : decode cX9_word 99 = .ok (.iinc 2 1, 3) := by decide +kernel
theorem dX9_word_102 : decode cX9_word 102 = .ok (.goto (-98), 3) := by decide +kernel
theorem dX9_word_105 : decode cX9_word 105 = .ok (.aload_n 0, 1) := by decide +kernel
theorem dX9_word_106 : decode cX9_word 106 = .ok (.dup, 1) := by decide +kernel
theorem dX9_word_107 : decode cX9_word 107 = .ok (.getfield 180, 3) := by decide +kernel
theorem dX9_word_110 : decode cX9_word 110 = .ok (.iload_n 1, 1) := by decide +kernel
theorem dX9_word_111 : decode cX9_word 111 = .ok (.iadd, 1) := by decide +kernel
theorem dX9_word_112 : decode cX9_word 112 = .ok (.putfield 180, 3) := by decide +kernel
theorem dX9_word_115 : decode cX9_word 115 = .ok (.iconst (-1), 1) := by decide +kernel
theorem dX9_word_116 : decode cX9_word 116 = .ok (.ireturn, 1) := by decide +kernel
theorem dX9_isSign_0 : decode cX9_isSign 0 = .ok (.aload_n 0, 1) := by decide +kernel
theorem dX9_isSign_1 : decode cX9_isSign 1 = .ok (.getfield 180, 3) := by decide +kernel
theorem dX9_isSign_4 : decode cX9_isSign 4 = .ok (.aload_n 0, 1) := by decide +kernel
theorem dX9_isSign_5 : decode cX9_isSign 5 = .ok (.getfield 177, 3) := by decide +kernel
theorem dX9_isSign_8 : decode cX9_isSign 8 = .ok (.if_icmp .eq 16, 3) := by decide +kernel
theorem dX9_isSign_11 : decode cX9_isSign 11 = .ok (.aload_n 0, 1) := by decide +kernel
theorem dX9_isSign_12 : decode cX9_isSign 12 = .ok (.getfield 35, 3) := by decide +kernel
theorem dX9_isSign_15 : decode cX9_isSign 15 = .ok (.aload_n 0, 1) := by decide +kernel
theorem dX9_isSign_16 : decode cX9_isSign 16 = .ok (.getfield 180, 3) := by decide +kernel
theorem dX9_isSign_19 : decode cX9_isSign 19 = .ok (.iaload, 1) := by decide +kernel
theorem dX9_isSign_20 : decode cX9_isSign 20 = .ok (.iload_n 1, 1) := by decide +kernel
theorem dX9_isSign_21 : decode cX9_isSign 21 = .ok (.if_icmp .eq 5, 3) := by decide +kernel
theorem dX9_isSign_24 : decode cX9_isSign 24 = .ok (.iconst 0, 1) := by decide +kernel
theorem dX9_isSign_25 : decode cX9_isSign 25 = .ok (.ireturn, 1) := by decide +kernel
theorem dX9_isSign_26 : decode cX9_isSign 26 = .ok (.aload_n 0, 1) := by decide +kernel
theorem dX9_isSign_27 : decode cX9_isSign 27 = .ok (.dup, 1) := by decide +kernel
theorem dX9_isSign_28 : decode cX9_isSign 28 = .ok (.getfield 180, 3) := by decide +kernel
theorem dX9_isSign_31 : decode cX9_isSign 31 = .ok (.iconst 1, 1) := by decide +kernel
theorem dX9_isSign_32 : decode cX9_isSign 32 = .ok (.iadd, 1) := by decide +kernel
theorem dX9_isSign_33 : decode cX9_isSign 33 = .ok (.putfield 180, 3) := by decide +kernel
theorem dX9_isSign_36 : decode cX9_isSign 36 = .ok (.iconst 1, 1) := by decide +kernel
