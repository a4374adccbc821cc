theorem dX0_init_0 : decode cX0_init 0 = .ok (.aload_n 0, 1) := by decide +kernel
theorem dX0_init_1 : decode cX0_init 1 = .ok (.invokespecial 3, 3) := by decide +kernel
theorem dX0_init_4 : decode cX0_init 4 = .ok (.aload_n 0, 1) := by decide +kernel
theorem dX0_init_5 : decode cX0_init 5 = .ok (.sipush 256, 3) := by decide +kernel
theorem dX0_init_8 : decode cX0_init 8 = .ok (.newarray .int, 2) := by decide +kernel
theorem dX0_init_10 : decode cX0_init 10 = .ok (.putfield 9, 3) := by decide +kernel
theorem dX0_init_13 : decode cX0_init 13 = .ok (.return_, 1) := by decide +kernel
theorem dX0_search_0 : decode cX0_search 0 = .ok (.iconst 1, 1) := by decide +kernel
theorem dX0_search_1 : decode cX0_search 1 = .ok (.aload_n 1, 1) := by decide +kernel
theorem dX0_search_2 : decode cX0_search 2 = .ok (.getfield 15, 3) := by decide +kernel
theorem dX0_search_5 : decode cX0_search 5 = .ok (.ishl, 1) := by decide +kernel
theorem dX0_search_6 : decode cX0_search 6 = .ok (.iconst 1, 1) := by decide +kernel
theorem dX0_search_7 : decode cX0_search 7 = .ok (.isub, 1) := by decide +kernel
theorem dX0_search_8 : decode cX0_search 8 = .ok (.istore_n 2, 1) := by decide +kernel
theorem dX0_search_9 : decode cX0_search 9 = .ok (.aload_n 0, 1) := by decide +kernel
theorem dX0_search_10 : decode cX0_search 10 = .ok (.getfield 9, 3) := by decide +kernel
theorem dX0_search_13 : decode cX0_search 13 = .ok (.iload_n 2, 1) := by decide +kernel
theorem dX0_search_14 : decode cX0_search 14 = .ok (.iconst 0, 1) := by decide +kernel
theorem dX0_search_15 : decode cX0_search 15 = .ok (.iastore, 1) := by decide +kernel
theorem dX0_search_16 : decode cX0_search 16 = .ok (.iload_n 2, 1) := by decide +kernel
theorem dX0_search_17 : decode cX0_search 17 = .ok (.iconst 1, 1) := by decide +kernel
theorem dX0_search_18 : decode cX0_search 18 = .ok (.isub, 1) := by decide +kernel
theorem dX0_search_19 : decode cX0_search 19 = .ok (.istore_n 3, 1) := by decide +kernel
theorem dX0_search_20 : decode cX0_search 20 = .ok (.iload_n 3, 1) := by decide +kernel
theorem dX0_search_21 : decode cX0_search 21 = .ok (.ifCond .lt 61, 3) := by decide +kernel
theorem dX0_search_24 : decode cX0_search 24 = .ok (.iload_n 3, 1) := by decide +kernel
theorem dX0_search_25 : decode cX0_search 25 = .ok (.invokestatic 21, 3) := by decide +kernel
theorem dX0_search_28 : decode cX0_search 28 = .ok (.istore 4, 2) := by decide +kernel
theorem dX0_search_30 : decode cX0_search 30 = .ok (.iconst (-1), 1) := by decide +kernel
theorem dX0_search_31 : decode cX0_search 31 = .ok (.istore 5, 2) := by decide +kernel
theorem dX0_search_33 : decode cX0_search 33 = .ok (.iconst 0, 1) := by decide +kernel
theorem dX0_search_34 : decode cX0_search 34 = .ok (.istore 6, 2) := by decide +kernel
theorem dX0_search_36 : decode cX0_search 36 = .ok (.iload 6, 2) := by decide +kernel
theorem dX0_search_38 : decode cX0_search 38 = .ok (.aload_n 1, 1) := by decide +kernel
theorem dX0_search_39 : decode cX0_search 39 = .ok (.getfield 15, 3) := by decide +kernel
theorem dX0_search_42 : decode cX0_search 42 = .ok (.if_icmp .ge 26, 3) := by decide +kernel
theorem dX0_search_45 : decode cX0_search 45 = .ok (.iload 5, 2) := by decide +kernel
theorem dX0_search_47 : decode cX0_search 47 = .ok (.aload_n 0, 1) := by decide +kernel
theorem dX0_search_48 : decode cX0_search 48 = .ok (.iload_n 3, 1) := by decide +kernel
theorem dX0_search_49 : decode cX0_search 49 = .ok (.iload 4, 2) := by decide +kernel
theorem dX0_search_51 : decode cX0_search 51 = .ok (.iload 6, 2) := by decide +kernel
theorem dX0_search_53 : decode cX0_search 53 = .ok (.aload_n 1, 1) := by decide +kernel
theorem dX0_search_54 : decode cX0_search 54 = .ok (.invokevirtual 27, 3) := by decide +kernel
theorem dX0_search_57 : decode cX0_search 57 = .ok (.invokestatic 31, 3) := by decide +kernel
theorem dX0_search_60 : decode cX0_search 60 = .ok (.istore 5, 2) := by decide +kernel
theorem dX0_search_62 : decode cX0_search 62 = .ok (.iinc 6 1, 3) := by decide +kernel
theorem dX0_search_65 : decode cX0_search 65 = .ok (.goto (-29), 3) := by decide +kernel
theorem dX0_search_68 : decode cX0_search 68 = .ok (.aload_n 0, 1) := by decide +kernel
theorem dX0_search_69 : decode cX0_search 69 = .ok (.getfield 9, 3) := by decide +kernel
theorem dX0_search_72 : decode cX0_search 72 = .ok (.iload_n 3, 1) := by decide +kernel
theorem dX0_search_73 : decode cX0_search 73 = .ok (.iload 5, 2) := by decide +kernel
theorem dX0_search_75 : decode cX0_search 75 = .ok (.iastore, 1) := by decide +kernel
theorem dX0_search_76 : decode cX0_search 76 = .ok (.iinc 3 (-1), 3) := by decide +kernel
theorem dX0_search_79 : decode cX0_search 79 = .ok (.goto (-59), 3) := by decide +kernel
theorem dX0_search_82 : decode cX0_search 82 = .ok (.aload_n 0, 1) := by decide +kernel
theorem dX0_search_83 : decode cX0_search 83 = .ok (.getfield 9, 3) := by decide +kernel
theorem dX0_search_86 : decode cX0_search 86 = .ok (.iconst 0, 1) := by decide +kernel
theorem dX0_search_87 : decode cX0_search 87 = .ok (.iaload, 1) := by decide +kernel
theorem dX0_search_88 : decode cX0_search 88 = .ok (.ireturn, 1) := by decide +kernel
theorem dX0_mostWith_0 : decode cX0_mostWith 0 = .ok (.iload_n 1, 1) := by decide +kernel
theorem dX0_mostWith_1 : decode cX0_mostWith 1 = .ok (.iload_n 3, 1) := by decide +kernel
theorem dX0_mostWith_2 : decode cX0_mostWith 2 = .ok (.ishr, 1) := by decide +kernel
theorem dX0_mostWith_3 : decode cX0_mostWith 3 = .ok (.iconst 1, 1) := by decide +kernel
theorem dX0_mostWith_4 : decode cX0_mostWith 4 = .ok (.iand, 1) := by decide +kernel
theorem dX0_mostWith_5 : decode cX0_mostWith 5 = .ok (.ifCond .ne 13, 3) := by decide +kernel
theorem dX0_mostWith_8 : decode cX0_mostWith 8 = .ok (.aload 4, 2) := by decide +kernel
theorem dX0_mostWith_10 : decode cX0_mostWith 10 = .ok (.iload_n 2, 1) := by decide +kernel
theorem dX0_mostWith_11 : decode cX0_mostWith 11 = .ok (.iload_n 3, 1) := by decide +kernel
theorem dX0_mostWith_12 : decode cX0_mostWith 12 = .ok (.invokevirtual 37, 3) := by decide +kernel
theorem dX0_mostWith_15 : decode cX0_mostWith 15 = .ok (.ifCond .ne 5, 3) := by decide +kernel
theorem dX0_mostWith_18 : decode cX0_mostWith 18 = .ok (.iconst (-1), 1) := by decide +kernel
theorem dX0_mostWith_19 : decode cX0_mostWith 19 = .ok (.ireturn, 1) := by decide +kernel
theorem dX0_mostWith_20 : decode cX0_mostWith 20 = .ok (.aload_n 0, 1) := by decide +kernel
theorem dX0_mostWith_21 : decode cX0_mostWith 21 = .ok (.getfield 9, 3) := by decide +kernel
theorem dX0_mostWith_24 : decode cX0_mostWith 24 = .ok (.iload_n 1, 1) := by decide +kernel
theorem dX0_mostWith_25 : decode cX0_mostWith 25 = .ok (.iconst 1, 1) := by decide +kernel
theorem dX0_mostWith_26 : decode cX0_mostWith 26 = .ok (.iload_n 3, 1) := by decide +kernel
theorem dX0_mostWith_27 : decode cX0_mostWith 27 = .ok (.ishl, 1) := by decide +kernel
theorem dX0_mostWith_28 : decode cX0_mostWith 28 = .ok (.ior, 1) := by decide +kernel
theorem dX0_mostWith_29 : decode cX0_mostWith 29 = .ok (.iaload, 1) := by decide +kernel
theorem dX0_mostWith_30 : decode cX0_mostWith 30 = .ok (.istore 5, 2) := by decide +kernel
theorem dX0_mostWith_32 : decode cX0_mostWith 32 = .ok (.iload 5, 2) := by decide +kernel
theorem dX0_mostWith_34 : decode cX0_mostWith 34 = .ok (.ifCond .ge 7, 3) := by decide +kernel
theorem dX0_mostWith_37 : decode cX0_mostWith 37 = .ok (.iconst (-1), 1) := by decide +kernel
theorem dX0_mostWith_38 : decode cX0_mostWith 38 = .ok (.goto 13, 3) := by decide +kernel
theorem dX0_mostWith_41 : decode cX0_mostWith 41 = .ok (.iload 5, 2) := by decide +kernel
theorem dX0_mostWith_43 : decode cX0_mostWith 43 = .ok (.aload 4, 2) := by decide +kernel
theorem dX0_mostWith_45 : decode cX0_mostWith 45 = .ok (.iload_n 2, 1) := by decide +kernel
theorem dX0_mostWith_46 : decode cX0_mostWith 46 = .ok (.iload_n 3, 1) := by decide +kernel
theorem dX0_mostWith_47 : decode cX0_mostWith 47 = .ok (.invokevirtual 41, 3) := by decide +kernel
theorem dX0_mostWith_50 : decode cX0_mostWith 50 = .ok (.iadd, 1) := by decide +kernel
theorem dX0_mostWith_51 : decode cX0_mostWith 51 = .ok (.ireturn, 1) := by decide +kernel
theorem dX0_slipOf_0 : decode cX0_slipOf 0 = .ok (.iconst 0, 1) := by decide +kernel
theorem dX0_slipOf_1 : decode cX0_slipOf 1 = .ok (.istore_n 3, 1) := by decide +kernel
theorem dX0_slipOf_2 : decode cX0_slipOf 2 = .ok (.iload_n 1, 1) := by decide +kernel
theorem dX0_slipOf_3 : decode cX0_slipOf 3 = .ok (.istore 4, 2) := by decide +kernel
theorem dX0_slipOf_5 : decode cX0_slipOf 5 = .ok (.iconst 0, 1) := by decide +kernel
theorem dX0_slipOf_6 : decode cX0_slipOf 6 = .ok (.istore 5, 2) := by decide +kernel
theorem dX0_slipOf_8 : decode cX0_slipOf 8 = .ok (.iload 5, 2) := by decide +kernel
theorem dX0_slipOf_10 : decode cX0_slipOf 10 = .ok (.iload_n 1, 1) := by decide +kernel
theorem dX0_slipOf_11 : decode cX0_slipOf 11 = .ok (.if_icmp .gt 26, 3) := by decide +kernel
theorem dX0_slipOf_14 : decode cX0_slipOf 14 = .ok (.aload_n 0, 1) := by decide +kernel
theorem dX0_slipOf_15 : decode cX0_slipOf 15 = .ok (.iload_n 3, 1) := by decide +kernel
theorem dX0_slipOf_16 : decode cX0_slipOf 16 = .ok (.iload 5, 2) := by decide +kernel
theorem dX0_slipOf_18 : decode cX0_slipOf 18 = .ok (.aload_n 2, 1) := by decide +kernel
theorem dX0_slipOf_19 : decode cX0_slipOf 19 = .ok (.invokevirtual 44, 3) := by decide +kernel
theorem dX0_slipOf_22 : decode cX0_slipOf 22 = .ok (.istore 4, 2) := by decide +kernel
theorem dX0_slipOf_24 : decode cX0_slipOf 24 = .ok (.iload_n 3, 1) := by decide +kernel
theorem dX0_slipOf_25 : decode cX0_slipOf 25 = .ok (.iconst 1, 1) := by decide +kernel
theorem dX0_slipOf_26 : decode cX0_slipOf 26 = .ok (.iload 4, 2) := by decide +kernel
theorem dX0_slipOf_28 : decode cX0_slipOf 28 = .ok (.ishl, 1) := by decide +kernel
theorem dX0_slipOf_29 : decode cX0_slipOf 29 = .ok (.ior, 1) := by decide +kernel
theorem dX0_slipOf_30 : decode cX0_slipOf 30 = .ok (.istore_n 3, 1) := by decide +kernel
theorem dX0_slipOf_31 : decode cX0_slipOf 31 = .ok (.iinc 5 1, 3) := by decide +kernel
theorem dX0_slipOf_34 : decode cX0_slipOf 34 = .ok (.goto (-26), 3) := by decide +kernel
theorem dX0_slipOf_37 : decode cX0_slipOf 37 = .ok (.iload 4, 2) := by decide +kernel
theorem dX0_slipOf_39 : decode cX0_slipOf 39 = .ok (.ireturn, 1) := by decide +kernel
theorem dX0_leastBest_0 : decode cX0_leastBest 0 = .ok (.iconst 0, 1) := by decide +kernel
theorem dX0_leastBest_1 : decode cX0_leastBest 1 = .ok (.istore 4, 2) := by decide +kernel
theorem dX0_leastBest_3 : decode cX0_leastBest 3 = .ok (.iload 4, 2) := by decide +kernel
theorem dX0_leastBest_5 : decode cX0_leastBest 5 = .ok (.aload_n 3, 1) := by decide +kernel
theorem dX0_leastBest_6 : decode cX0_leastBest 6 = .ok (.getfield 15, 3) := by decide +kernel
theorem dX0_leastBest_9 : decode cX0_leastBest 9 = .ok (.if_icmp .ge 39, 3) := by decide +kernel
theorem dX0_leastBest_12 : decode cX0_leastBest 12 = .ok (.aload_n 0, 1) := by decide +kernel
theorem dX0_leastBest_13 : decode cX0_leastBest 13 = .ok (.getfield 9, 3) := by decide +kernel
theorem dX0_leastBest_16 : decode cX0_leastBest 16 = .ok (.iload_n 1, 1) := by decide +kernel
theorem dX0_leastBest_17 : decode cX0_leastBest 17 = .ok (.iaload, 1) := by decide +kernel
theorem dX0_leastBest_18 : decode cX0_leastBest 18 = .ok (.ifCond .lt 24, 3) := by decide +kernel
theorem dX0_leastBest_21 : decode cX0_leastBest 21 = .ok (.aload_n 0, 1) := by decide +kernel
theorem dX0_leastBest_22 : decode cX0_leastBest 22 = .ok (.iload_n 1, 1) := by decide +kernel
theorem dX0_leastBest_23 : decode cX0_leastBest 23 = .ok (.iload_n 2, 1) := by decide +kernel
theorem dX0_leastBest_24 : decode cX0_leastBest 24 = .ok (.iload 4, 2) := by decide +kernel
theorem dX0_leastBest_26 : decode cX0_leastBest 26 = .ok (.aload_n 3, 1) := by decide +kernel
theorem dX0_leastBest_27 : decode cX0_leastBest 27 = .ok (.invokevirtual 27, 3) := by decide +kernel
theorem dX0_leastBest_30 : decode cX0_leastBest 30 = .ok (.aload_n 0, 1) := by decide +kernel
theorem dX0_leastBest_31 : decode cX0_leastBest 31 = .ok (.getfield 9, 3) := by decide +kernel
theorem dX0_leastBest_34 : decode cX0_leastBest 34 = .ok (.iload_n 1, 1) := by decide +kernel
theorem dX0_leastBest_35 : decode cX0_leastBest 35 = .ok (.iaload, 1) := by decide +kernel
theorem dX0_leastBest_36 : decode cX0_leastBest 36 = .ok (.if_icmp .ne 6, 3) := by decide +kernel
theorem dX0_leastBest_39 : decode cX0_leastBest 39 = .ok (.iload 4, 2) := by decide +kernel
theorem dX0_leastBest_41 : decode cX0_leastBest 41 = .ok (.ireturn, 1) := by decide +kernel
theorem dX0_leastBest_42 : decode cX0_leastBest 42 = .ok (.iinc 4 1, 3) := by decide +kernel
theorem dX0_leastBest_45 : decode cX0_leastBest 45 = .ok (.goto (-42), 3) := by decide +kernel
theorem dX0_leastBest_48 : decode cX0_leastBest 48 = .ok (.iload_n 2, 1) := by decide +kernel
theorem dX0_leastBest_49 : decode cX0_leastBest 49 = .ok (.ireturn, 1) := by decide +kernel
theorem dX1_ordered_0 : decode cX1_ordered 0 = .ok (.getstatic 7, 3) := by decide +kernel
theorem dX1_ordered_3 : decode cX1_ordered 3 = .ok (.iload_n 0, 1) := by decide +kernel
theorem dX1_ordered_4 : decode cX1_ordered 4 = .ok (.iaload, 1) := by decide +kernel
theorem dX1_ordered_5 : decode cX1_ordered 5 = .ok (.ireturn, 1) := by decide +kernel
theorem dX1_deranged_0 : decode cX1_deranged 0 = .ok (.getstatic 13, 3) := by decide +kernel
theorem dX1_deranged_3 : decode cX1_deranged 3 = .ok (.iload_n 0, 1) := by decide +kernel
theorem dX1_deranged_4 : decode cX1_deranged 4 = .ok (.iaload, 1) := by decide +kernel
theorem dX1_deranged_5 : decode cX1_deranged 5 = .ok (.ireturn, 1) := by decide +kernel
theorem dX1_withOwn_0 : decode cX1_withOwn 0 = .ok (.iload_n 1, 1) := by decide +kernel
theorem dX1_withOwn_1 : decode cX1_withOwn 1 = .ok (.iload_n 0, 1) := by decide +kernel
theorem dX1_withOwn_2 : decode cX1_withOwn 2 = .ok (.if_icmp .le 5, 3) := by decide +kernel
theorem dX1_withOwn_5 : decode cX1_withOwn 5 = .ok (.iconst 0, 1) := by decide +kernel
theorem dX1_withOwn_6 : decode cX1_withOwn 6 = .ok (.ireturn, 1) := by decide +kernel
theorem dX1_withOwn_7 : decode cX1_withOwn 7 = .ok (.iconst 1, 1) := by decide +kernel
theorem dX1_withOwn_8 : decode cX1_withOwn 8 = .ok (.getstatic 7, 3) := by decide +kernel
theorem dX1_withOwn_11 : decode cX1_withOwn 11 = .ok (.iload_n 1, 1) := by decide +kernel
theorem dX1_withOwn_12 : decode cX1_withOwn 12 = .ok (.iaload, 1) := by decide +kernel
theorem dX1_withOwn_13 : decode cX1_withOwn 13 = .ok (.getstatic 7, 3) := by decide +kernel
theorem dX1_withOwn_16 : decode cX1_withOwn 16 = .ok (.iload_n 0, 1) := by decide +kernel
theorem dX1_withOwn_17 : decode cX1_withOwn 17 = .ok (.iload_n 1, 1) := by decide +kernel
theorem dX1_withOwn_18 : decode cX1_withOwn 18 = .ok (.isub, 1) := by decide +kernel
theorem dX1_withOwn_19 : decode cX1_withOwn 19 = .ok (.iaload, 1) := by decide +kernel
theorem dX1_withOwn_20 : decode cX1_withOwn 20 = .ok (.imul, 1) := by decide +kernel
theorem dX1_withOwn_21 : decode cX1_withOwn 21 = .ok (.invokestatic 16, 3) := by decide +kernel
theorem dX1_withOwn_24 : decode cX1_withOwn 24 = .ok (.istore_n 2, 1) := by decide +kernel
theorem dX1_withOwn_25 : decode cX1_withOwn 25 = .ok (.getstatic 7, 3) := by decide +kernel
theorem dX1_withOwn_28 : decode cX1_withOwn 28 = .ok (.iload_n 0, 1) := by decide +kernel
theorem dX1_withOwn_29 : decode cX1_withOwn 29 = .ok (.iaload, 1) := by decide +kernel
theorem dX1_withOwn_30 : decode cX1_withOwn 30 = .ok (.iload_n 2, 1) := by decide +kernel
theorem dX1_withOwn_31 : decode cX1_withOwn 31 = .ok (.idiv, 1) := by decide +kernel
theorem dX1_withOwn_32 : decode cX1_withOwn 32 = .ok (.getstatic 13, 3) := by decide +kernel
theorem dX1_withOwn_35 : decode cX1_withOwn 35 = .ok (.iload_n 0, 1) := by decide +kernel
theorem dX1_withOwn_36 : decode cX1_withOwn 36 = .ok (.iload_n 1, 1) := by decide +kernel
theorem dX1_withOwn_37 : decode cX1_withOwn 37 = .ok (.isub, 1) := by decide +kernel
theorem dX1_withOwn_38 : decode cX1_withOwn 38 = .ok (.iaload, 1) := by decide +kernel
theorem dX1_withOwn_39 : decode cX1_withOwn 39 = .ok (.imul, 1) := by decide +kernel
theorem dX1_withOwn_40 : decode cX1_withOwn 40 = .ok (.ireturn, 1) := by decide +kernel
theorem dX1_commonDivisor_0 : decode cX1_commonDivisor 0 = .ok (.iload_n 0, 1) := by decide +kernel
theorem dX1_commonDivisor_1 : decode cX1_commonDivisor 1 = .ok (.istore_n 2, 1) := by decide +kernel
theorem dX1_commonDivisor_2 : decode cX1_commonDivisor 2 = .ok (.iload_n 1, 1) := by decide +kernel
theorem dX1_commonDivisor_3 : decode cX1_commonDivisor 3 = .ok (.istore_n 3, 1) := by decide +kernel
theorem dX1_commonDivisor_4 : decode cX1_commonDivisor 4 = .ok (.iconst 0, 1) := by decide +kernel
theorem dX1_commonDivisor_5 : decode cX1_commonDivisor 5 = .ok (.istore 4, 2) := by decide +kernel
theorem dX1_commonDivisor_7 : decode cX1_commonDivisor 7 = .ok (.iload 4, 2) := by decide +kernel
theorem dX1_commonDivisor_9 : decode cX1_commonDivisor 9 = .ok (.bipush 64, 2) := by decide +kernel
theorem dX1_commonDivisor_11 : decode cX1_commonDivisor 11 = .ok (.if_icmp .ge 23, 3) := by decide +kernel
theorem dX1_commonDivisor_14 : decode cX1_commonDivisor 14 = .ok (.iload_n 3, 1) := by decide +kernel
theorem dX1_commonDivisor_15 : decode cX1_commonDivisor 15 = .ok (.ifCond .eq 19, 3) := by decide +kernel
theorem dX1_commonDivisor_18 : decode cX1_commonDivisor 18 = .ok (.iload_n 2, 1) := by decide +kernel
theorem dX1_commonDivisor_19 : decode cX1_commonDivisor 19 = .ok (.iload_n 3, 1) := by decide +kernel
theorem dX1_commonDivisor_20 : decode cX1_commonDivisor 20 = .ok (.irem, 1) := by decide +kernel
theorem dX1_commonDivisor_21 : decode cX1_commonDivisor 21 = .ok (.istore 5, 2) := by decide +kernel
theorem dX1_commonDivisor_23 : decode cX1_commonDivisor 23 = .ok (.iload_n 3, 1) := by decide +kernel
theorem dX1_commonDivisor_24 : decode cX1_commonDivisor 24 = .ok (.istore_n 2, 1) := by decide +kernel
theorem dX1_commonDivisor_25 : decode cX1_commonDivisor 25 = .ok (.iload 5, 2) := by decide +kernel
theorem dX1_commonDivisor_27 : decode cX1_commonDivisor 27 = .ok (.istore_n 3, 1) := by decide +kernel
theorem dX1_commonDivisor_28 : decode cX1_commonDivisor 28 = .ok (.iinc 4 1, 3) := by decide +kernel
theorem dX1_commonDivisor_31 : decode cX1_commonDivisor 31 = .ok (.goto (-24), 3) := by decide +kernel
theorem dX1_commonDivisor_34 : decode cX1_commonDivisor 34 = .ok (.iload_n 2, 1) := by decide +kernel
theorem dX1_commonDivisor_35 : decode cX1_commonDivisor 35 = .ok (.ireturn, 1) := by decide +kernel
theorem dX2_init_0 : decode cX2_init 0 = .ok (.aload_n 0, 1) := by decide +kernel
theorem dX2_init_1 : decode cX2_init 1 = .ok (.invokespecial 3, 3) := by decide +kernel
theorem dX2_init_4 : decode cX2_init 4 = .ok (.aload_n 0, 1) := by decide +kernel
theorem dX2_init_5 : decode cX2_init 5 = .ok (.bipush 40, 2) := by decide +kernel
theorem dX2_init_7 : decode cX2_init 7 = .ok (.newarray .long, 2) := by decide +kernel
theorem dX2_init_9 : decode cX2_init 9 = .ok (.putfield 9, 3) := by decide +kernel
theorem dX2_init_12 : decode cX2_init 12 = .ok (.return_, 1) := by decide +kernel
theorem dX2_isMissing_0 : decode cX2_isMissing 0 = .ok (.aload_n 0, 1) := by decide +kernel
theorem dX2_isMissing_1 : decode cX2_isMissing 1 = .ok (.getfield 15, 3) := by decide +kernel
theorem dX2_isMissing_4 : decode cX2_isMissing 4 = .ok (.ifCond .ne 7, 3) := by decide +kernel
theorem dX2_isMissing_7 : decode cX2_isMissing 7 = .ok (.iconst 1, 1) := by decide +kernel
theorem dX2_isMissing_8 : decode cX2_isMissing 8 = .ok (.goto 4, 3) := by decide +kernel
theorem dX2_isMissing_11 : decode cX2_isMissing 11 = .ok (.iconst 0, 1) := by decide +kernel
theorem dX2_isMissing_12 : decode cX2_isMissing 12 = .ok (.ireturn, 1) := by decide +kernel
theorem dX2_begin_0 : decode cX2_begin 0 = .ok (.aload_n 0, 1) := by decide +kernel
theorem dX2_begin_1 : decode cX2_begin 1 = .ok (.iload_n 1, 1) := by decide +kernel
theorem dX2_begin_2 : decode cX2_begin 2 = .ok (.putfield 15, 3) := by decide +kernel
theorem dX2_begin_5 : decode cX2_begin 5 = .ok (.aload_n 0, 1) := by decide +kernel
theorem dX2_begin_6 : decode cX2_begin 6 = .ok (.iload_n 1, 1) := by decide +kernel
theorem dX2_begin_7 : decode cX2_begin 7 = .ok (.ifCond .ne 7, 3) := by decide +kernel
theorem dX2_begin_10 : decode cX2_begin 10 = .ok (.iconst 0, 1) := by decide +kernel
theorem dX2_begin_11 : decode cX2_begin 11 = .ok (.goto 4, 3) := by decide +kernel
theorem dX2_begin_14 : decode cX2_begin 14 = .ok (.iload_n 2, 1) := by decide +kernel
theorem dX2_begin_15 : decode cX2_begin 15 = .ok (.putfield 19, 3) := by decide +kernel
theorem dX2_begin_18 : decode cX2_begin 18 = .ok (.aload_n 0, 1) := by decide +kernel
theorem dX2_begin_19 : decode cX2_begin 19 = .ok (.getfield 9, 3) := by decide +kernel
theorem dX2_begin_22 : decode cX2_begin 22 = .ok (.lconst 0, 1) := by decide +kernel
theorem dX2_begin_23 : decode cX2_begin 23 = .ok (.invokestatic 22, 3) := by decide +kernel
theorem dX2_begin_26 : decode cX2_begin 26 = .ok (.aload_n 0, 1) := by decide +kernel
theorem dX2_begin_27 : decode cX2_begin 27 = .ok (.getfield 19, 3) := by decide +kernel
theorem dX2_begin_30 : decode cX2_begin 30 = .ok (.ireturn, 1) := by decide +kernel
theorem dX2_put_0 : decode cX2_put 0 = .ok (.aload_n 0, 1) := by decide +kernel
theorem dX2_put_1 : decode cX2_put 1 = .ok (.getfield 15, 3) := by decide +kernel
theorem dX2_put_4 : decode cX2_put 4 = .ok (.lookupswitch 54 #[(8, 28), (16, 41)], 28) := by decide +kernel
theorem dX2_put_32 : decode cX2_put 32 = .ok (.aload_n 0, 1) := by decide +kernel
theorem dX2_put_33 : decode cX2_put 33 = .ok (.getfield 9, 3) := by decide +kernel
theorem dX2_put_36 : decode cX2_put 36 = .ok (.iload_n 1, 1) := by decide +kernel
theorem dX2_put_37 : decode cX2_put 37 = .ok (.lload_n 2, 1) := by decide +kernel
theorem dX2_put_38 : decode cX2_put 38 = .ok (.l2i, 1) := by decide +kernel
theorem dX2_put_39 : decode cX2_put 39 = .ok (.i2b, 1) := by decide +kernel
theorem dX2_put_40 : decode cX2_put 40 = .ok (.i2l, 1) := by decide +kernel
theorem dX2_put_41 : decode cX2_put 41 = .ok (.lastore, 1) := by decide +kernel
theorem dX2_put_42 : decode cX2_put 42 = .ok (.goto 23, 3) := by decide +kernel
theorem dX2_put_45 : decode cX2_put 45 = .ok (.aload_n 0, 1) := by decide +kernel
theorem dX2_put_46 : decode cX2_put 46 = .ok (.getfield 9, 3) := by decide +kernel
theorem dX2_put_49 : decode cX2_put 49 = .ok (.iload_n 1, 1) := by decide +kernel
theorem dX2_put_50 : decode cX2_put 50 = .ok (.lload_n 2, 1) := by decide +kernel
theorem dX2_put_51 : decode cX2_put 51 = .ok (.l2i, 1) := by decide +kernel
theorem dX2_put_52 : decode cX2_put 52 = .ok (.i2s, 1) := by decide +kernel
theorem dX2_put_53 : decode cX2_put 53 = .ok (.i2l, 1) := by decide +kernel
theorem dX2_put_54 : decode cX2_put 54 = .ok (.lastore, 1) := by decide +kernel
theorem dX2_put_55 : decode cX2_put 55 = .ok (.goto 10, 3) := by decide +kernel
theorem dX2_put_58 : decode cX2_put 58 = .ok (.aload_n 0, 1) := by decide +kernel
theorem dX2_put_59 : decode cX2_put 59 = .ok (.getfield 9, 3) := by decide +kernel
theorem dX2_put_62 : decode cX2_put 62 = .ok (.iload_n 1, 1) := by decide +kernel
theorem dX2_put_63 : decode cX2_put 63 = .ok (.lload_n 2, 1) := by decide +kernel
theorem dX2_put_64 : decode cX2_put 64 = .ok (.lastore, 1) := by decide +kernel
theorem dX2_put_65 : decode cX2_put 65 = .ok (.return_, 1) := by decide +kernel
theorem dX2_hasRun_0 : decode cX2_hasRun 0 = .ok (.iload_n 1, 1) := by decide +kernel
theorem dX2_hasRun_1 : decode cX2_hasRun 1 = .ok (.ifCond .lt 29, 3) := by decide +kernel
theorem dX2_hasRun_4 : decode cX2_hasRun 4 = .ok (.iload_n 2, 1) := by decide +kernel
theorem dX2_hasRun_5 : decode cX2_hasRun 5 = .ok (.ifCond .lt 25, 3) := by decide +kernel
theorem dX2_hasRun_8 : decode cX2_hasRun 8 = .ok (.iload_n 1, 1) := by decide +kernel
theorem dX2_hasRun_9 : decode cX2_hasRun 9 = .ok (.aload_n 0, 1) := by decide +kernel
theorem dX2_hasRun_10 : decode cX2_hasRun 10 = .ok (.getfield 19, 3) := by decide +kernel
theorem dX2_hasRun_13 : decode cX2_hasRun 13 = .ok (.if_icmp .gt 17, 3) := by decide +kernel
theorem dX2_hasRun_16 : decode cX2_hasRun 16 = .ok (.iload_n 2, 1) := by decide +kernel
theorem dX2_hasRun_17 : decode cX2_hasRun 17 = .ok (.aload_n 0, 1) := by decide +kernel
theorem dX2_hasRun_18 : decode cX2_hasRun 18 = .ok (.getfield 19, 3) := by decide +kernel
theorem dX2_hasRun_21 : decode cX2_hasRun 21 = .ok (.iload_n 1, 1) := by decide +kernel
theorem dX2_hasRun_22 : decode cX2_hasRun 22 = .ok (.isub, 1) := by decide +kernel
theorem dX2_hasRun_23 : decode cX2_hasRun 23 = .ok (.if_icmp .gt 7, 3) := by decide +kernel
theorem dX2_hasRun_26 : decode cX2_hasRun 26 = .ok (.iconst 1, 1) := by decide +kernel
theorem dX2_hasRun_27 : decode cX2_hasRun 27 = .ok (.goto 4, 3) := by decide +kernel
theorem dX2_hasRun_30 : decode cX2_hasRun 30 = .ok (.iconst 0, 1) := by decide +kernel
theorem dX2_hasRun_31 : decode cX2_hasRun 31 = .ok (.ireturn, 1) := by decide +kernel
theorem dX3_init_0 : decode cX3_init 0 = .ok (.aload_n 0, 1) := by decide +kernel
theorem dX3_init_1 : decode cX3_init 1 = .ok (.invokespecial 3, 3) := by decide +kernel
theorem dX3_init_4 : decode cX3_init 4 = .ok (.aload_n 0, 1) := by decide +kernel
theorem dX3_init_5 : decode cX3_init 5 = .ok (.bipush 120, 2) := by decide +kernel
theorem dX3_init_7 : decode cX3_init 7 = .ok (.newarray .int, 2) := by decide +kernel
theorem dX3_init_9 : decode cX3_init 9 = .ok (.putfield 9, 3) := by decide +kernel
theorem dX3_init_12 : decode cX3_init 12 = .ok (.return_, 1) := by decide +kernel
theorem dX3_add_0 : decode cX3_add 0 = .ok (.aload_n 0, 1) := by decide +kernel
theorem dX3_add_1 : decode cX3_add 1 = .ok (.getfield 9, 3) := by decide +kernel
theorem dX3_add_4 : decode cX3_add 4 = .ok (.aload_n 0, 1) := by decide +kernel
theorem dX3_add_5 : decode cX3_add 5 = .ok (.getfield 15, 3) := by decide +kernel
theorem dX3_add_8 : decode cX3_add 8 = .ok (.iload_n 1, 1) := by decide +kernel
theorem dX3_add_9 : decode cX3_add 9 = .ok (.iastore, 1) := by decide +kernel
theorem dX3_add_10 : decode cX3_add 10 = .ok (.aload_n 0, 1) := by decide +kernel
theorem dX3_add_11 : decode cX3_add 11 = .ok (.dup, 1) := by decide +kernel
theorem dX3_add_12 : decode cX3_add 12 = .ok (.getfield 15, 3) := by decide +kernel
theorem dX3_add_15 : decode cX3_add 15 = .ok (.iconst 1, 1) := by decide +kernel
theorem dX3_add_16 : decode cX3_add 16 = .ok (.iadd, 1) := by decide +kernel
theorem dX3_add_17 : decode cX3_add 17 = .ok (.putfield 15, 3) := by decide +kernel
theorem dX3_add_20 : decode cX3_add 20 = .ok (.return_, 1) := by decide +kernel
theorem dX3_at_0 : decode cX3_at 0 = .ok (.iload_n 1, 1) := by decide +kernel
theorem dX3_at_1 : decode cX3_at 1 = .ok (.ifCond .lt 20, 3) := by decide +kernel
theorem dX3_at_4 : decode cX3_at 4 = .ok (.iload_n 1, 1) := by decide +kernel
theorem dX3_at_5 : decode cX3_at 5 = .ok (.aload_n 0, 1) := by decide +kernel
theorem dX3_at_6 : decode cX3_at 6 = .ok (.getfield 15, 3) := by decide +kernel
theorem dX3_at_9 : decode cX3_at 9 = .ok (.if_icmp .ge 12, 3) := by decide +kernel
theorem dX3_at_12 : decode cX3_at 12 = .ok (.aload_n 0, 1) := by decide +kernel
theorem dX3_at_13 : decode cX3_at 13 = .ok (.getfield 9, 3) := by decide +kernel
theorem dX3_at_16 : decode cX3_at 16 = .ok (.iload_n 1, 1) := by decide +kernel
theorem dX3_at_17 : decode cX3_at 17 = .ok (.iaload, 1) := by decide +kernel
theorem dX3_at_18 : decode cX3_at 18 = .ok (.goto 4, 3) := by decide +kernel
theorem dX3_at_21 : decode cX3_at 21 = .ok (.iconst (-1), 1) := by decide +kernel
theorem dX3_at_22 : decode cX3_at 22 = .ok (.ireturn, 1) := by decide +kernel
theorem dX4_init_0 : decode cX4_init 0 = .ok (.aload_n 0, 1) := by decide +kernel
theorem dX4_init_1 : decode cX4_init 1 = .ok (.invokespecial 3, 3) := by decide +kernel
theorem dX4_init_4 : decode cX4_init 4 = .ok (.aload_n 0, 1) := by decide +kernel
theorem dX4_init_5 : decode cX4_init 5 = .ok (.iconst 1, 1) := by decide +kernel
theorem dX4_init_6 : decode cX4_init 6 = .ok (.putfield 9, 3) := by decide +kernel
theorem dX4_init_9 : decode cX4_init 9 = .ok (.aload_n 0, 1) := by decide +kernel
theorem dX4_init_10 : decode cX4_init 10 = .ok (.bipush 8, 2) := by decide +kernel
theorem dX4_init_12 : decode cX4_init 12 = .ok (.newarray .int, 2) := by decide +kernel
theorem dX4_init_14 : decode cX4_init 14 = .ok (.putfield 15, 3) := by decide +kernel
theorem dX4_init_17 : decode cX4_init 17 = .ok (.aload_n 0, 1) := by decide +kernel
theorem dX4_init_18 : decode cX4_init 18 = .ok (.bipush 8, 2) := by decide +kernel
theorem dX4_init_20 : decode cX4_init 20 = .ok (.newarray .int, 2) := by decide +kernel
theorem dX4_init_22 : decode cX4_init 22 = .ok (.putfield 19, 3) := by decide +kernel
theorem dX4_init_25 : decode cX4_init 25 = .ok (.aload_n 0, 1) := by decide +kernel
theorem dX4_init_26 : decode cX4_init 26 = .ok (.bipush 8, 2) := by decide +kernel
theorem dX4_init_28 : decode cX4_init 28 = .ok (.newarray .int, 2) := by decide +kernel
theorem dX4_init_30 : decode cX4_init 30 = .ok (.putfield 22, 3) := by decide +kernel
theorem dX4_init_33 : decode cX4_init 33 = .ok (.aload_n 0, 1) := by decide +kernel
theorem dX4_init_34 : decode cX4_init 34 = .ok (.bipush 8, 2) := by decide +kernel
theorem dX4_init_36 : decode cX4_init 36 = .ok (.newarray .int, 2) := by decide +kernel
theorem dX4_init_38 : decode cX4_init 38 = .ok (.putfield 25, 3) := by decide +kernel
theorem dX4_init_41 : decode cX4_init 41 = .ok (.aload_n 0, 1) := by decide +kernel
theorem dX4_init_42 : decode cX4_init 42 = .ok (.bipush 8, 2) := by decide +kernel
theorem dX4_init_44 : decode cX4_init 44 = .ok (.newarray .int, 2) := by decide +kernel
theorem dX4_init_46 : decode cX4_init 46 = .ok (.putfield 28, 3) := by decide +kernel
theorem dX4_init_49 : decode cX4_init 49 = .ok (.aload_n 0, 1) := by decide +kernel
theorem dX4_init_50 : decode cX4_init 50 = .ok (.bipush 8, 2) := by decide +kernel
theorem dX4_init_52 : decode cX4_init 52 = .ok (.newarray .int, 2) := by decide +kernel
theorem dX4_init_54 : decode cX4_init 54 = .ok (.putfield 31, 3) := by decide +kernel
theorem dX4_init_57 : decode cX4_init 57 = .ok (.aload_n 0, 1) := by decide +kernel
theorem dX4_init_58 : decode cX4_init 58 = .ok (.bipush 8, 2) := by decide +kernel
theorem dX4_init_60 : decode cX4_init 60 = .ok (.newarray .int, 2) := by decide +kernel
theorem dX4_init_62 : decode cX4_init 62 = .ok (.putfield 34, 3) := by decide +kernel
theorem dX4_init_65 : decode cX4_init 65 = .ok (.aload_n 0, 1) := by decide +kernel
theorem dX4_init_66 : decode cX4_init 66 = .ok (.bipush 8, 2) := by decide +kernel
theorem dX4_init_68 : decode cX4_init 68 = .ok (.newarray .int, 2) := by decide +kernel
theorem dX4_init_70 : decode cX4_init 70 = .ok (.putfield 37, 3) := by decide +kernel
theorem dX4_init_73 : decode cX4_init 73 = .ok (.aload_n 0, 1) := by decide +kernel
theorem dX4_init_74 : decode cX4_init 74 = .ok (.bipush 8, 2) := by decide +kernel
theorem dX4_init_76 : decode cX4_init 76 = .ok (.newarray .int, 2) := by decide +kernel
theorem dX4_init_78 : decode cX4_init 78 = .ok (.putfield 40, 3) := by decide +kernel
theorem dX4_init_81 : decode cX4_init 81 = .ok (.aload_n 0, 1) := by decide +kernel
theorem dX4_init_82 : decode cX4_init 82 = .ok (.bipush 8, 2) := by decide +kernel
theorem dX4_init_84 : decode cX4_init 84 = .ok (.newarray .int, 2) := by decide +kernel
theorem dX4_init_86 : decode cX4_init 86 = .ok (.putfield 43, 3) := by decide +kernel
theorem dX4_init_89 : decode cX4_init 89 = .ok (.return_, 1) := by decide +kernel
theorem dX4_become_0 : decode cX4_become 0 = .ok (.aload_n 0, 1) := by decide +kernel
theorem dX4_become_1 : decode cX4_become 1 = .ok (.aload_n 1, 1) := by decide +kernel
theorem dX4_become_2 : decode cX4_become 2 = .ok (.getfield 46, 3) := by decide +kernel
theorem dX4_become_5 : decode cX4_become 5 = .ok (.putfield 46, 3) := by decide +kernel
theorem dX4_become_8 : decode cX4_become 8 = .ok (.aload_n 0, 1) := by decide +kernel
theorem dX4_become_9 : decode cX4_become 9 = .ok (.aload_n 1, 1) := by decide +kernel
theorem dX4_become_10 : decode cX4_become 10 = .ok (.getfield 9, 3) := by decide +kernel
theorem dX4_become_13 : decode cX4_become 13 = .ok (.putfield 9, 3) := by decide +kernel
theorem dX4_become_16 : decode cX4_become 16 = .ok (.aload_n 0, 1) := by decide +kernel
theorem dX4_become_17 : decode cX4_become 17 = .ok (.aload_n 1, 1) := by decide +kernel
theorem dX4_become_18 : decode cX4_become 18 = .ok (.getfield 49, 3) := by decide +kernel
theorem dX4_become_21 : decode cX4_become 21 = .ok (.putfield 49, 3) := by decide +kernel
theorem dX4_become_24 : decode cX4_become 24 = .ok (.aload_n 1, 1) := by decide +kernel
theorem dX4_become_25 : decode cX4_become 25 = .ok (.getfield 15, 3) := by decide +kernel
theorem dX4_become_28 : decode cX4_become 28 = .ok (.iconst 0, 1) := by decide +kernel
theorem dX4_become_29 : decode cX4_become 29 = .ok (.aload_n 0, 1) := by decide +kernel
theorem dX4_become_30 : decode cX4_become 30 = .ok (.getfield 15, 3) := by decide +kernel
theorem dX4_become_33 : decode cX4_become 33 = .ok (.iconst 0, 1) := by decide +kernel
theorem dX4_become_34 : decode cX4_become 34 = .ok (.bipush 8, 2) := by decide +kernel
theorem dX4_become_36 : decode cX4_become 36 = .ok (.invokestatic 52, 3) := by decide +kernel
theorem dX4_become_39 : decode cX4_become 39 = .ok (.aload_n 1, 1) := by decide +kernel
theorem dX4_become_40 : decode cX4_become 40 = .ok (.getfield 19, 3) := by decide +kernel
theorem dX4_become_43 : decode cX4_become 43 = .ok (.iconst 0, 1) := by decide +kernel
theorem dX4_become_44 : decode cX4_become 44 = .ok (.aload_n 0, 1) := by decide +kernel
theorem dX4_become_45 : decode cX4_become 45 = .ok (.getfield 19, 3) := by decide +kernel
theorem dX4_become_48 : decode cX4_become 48 = .ok (.iconst 0, 1) := by decide +kernel
theorem dX4_become_49 : decode cX4_become 49 = .ok (.bipush 8, 2) := by decide +kernel
theorem dX4_become_51 : decode cX4_become 51 = .ok (.invokestatic 52, 3) := by decide +kernel
theorem dX4_become_54 : decode cX4_become 54 = .ok (.aload_n 1, 1) := by decide +kernel
theorem dX4_become_55 : decode cX4_become 55 = .ok (.getfield 22, 3) := by decide +kernel
theorem dX4_become_58 : decode cX4_become 58 = .ok (.iconst 0, 1) := by decide +kernel
theorem dX4_become_59 : decode cX4_become 59 = .ok (.aload_n 0, 1) := by decide +kernel
theorem dX4_become_60 : decode cX4_become 60 = .ok (.getfield 22, 3) := by decide +kernel
theorem dX4_become_63 : decode cX4_become 63 = .ok (.iconst 0, 1) := by decide +kernel
theorem dX4_become_64 : decode cX4_become 64 = .ok (.bipush 8, 2) := by decide +kernel
theorem dX4_become_66 : decode cX4_become 66 = .ok (.invokestatic 52, 3) := by decide +kernel
theorem dX4_become_69 : decode cX4_become 69 = .ok (.aload_n 1, 1) := by decide +kernel
theorem dX4_become_70 : decode cX4_become 70 = .ok (.getfield 25, 3) := by decide +kernel
theorem dX4_become_73 : decode cX4_become 73 = .ok (.iconst 0, 1) := by decide +kernel
theorem dX4_become_74 : decode cX4_become 74 = .ok (.aload_n 0, 1) := by decide +kernel
theorem dX4_become_75 : decode cX4_become 75 = .ok (.getfield 25, 3) := by decide +kernel
theorem dX4_become_78 : decode cX4_become 78 = .ok (.iconst 0, 1) := by decide +kernel
theorem dX4_become_79 : decode cX4_become 79 = .ok (.bipush 8, 2) := by decide +kernel
theorem dX4_become_81 : decode cX4_become 81 = .ok (.invokestatic 52, 3) := by decide +kernel
theorem dX4_become_84 : decode cX4_become 84 = .ok (.aload_n 1, 1) := by decide +kernel
theorem dX4_become_85 : decode cX4_become 85 = .ok (.getfield 28, 3) := by decide +kernel
theorem dX4_become_88 : decode cX4_become 88 = .ok (.iconst 0, 1) := by decide +kernel
theorem dX4_become_89 : decode cX4_become 89 = .ok (.aload_n 0, 1) := by decide +kernel
theorem dX4_become_90 : decode cX4_become 90 = .ok (.getfield 28, 3) := by decide +kernel
theorem dX4_become_93 : decode cX4_become 93 = .ok (.iconst 0, 1) := by decide +kernel
theorem dX4_become_94 : decode cX4_become 94 = .ok (.bipush 8, 2) := by decide +kernel
theorem dX4_become_96 : decode cX4_become 96 = .ok (.invokestatic 52, 3) := by decide +kernel
theorem dX4_become_99 : decode cX4_become 99 = .ok (.aload_n 1, 1) := by decide +kernel
theorem dX4_become_100 : decode cX4_become 100 = .ok (.getfield 31, 3) := by decide +kernel
theorem dX4_become_103 : decode cX4_become 103 = .ok (.iconst 0, 1) := by decide +kernel
theorem dX4_become_104 : decode cX4_become 104 = .ok (.aload_n 0, 1) := by decide +kernel
theorem dX4_become_105 : decode cX4_become 105 = .ok (.getfield 31, 3) := by decide +kernel
theorem dX4_become_108 : decode cX4_become 108 = .ok (.iconst 0, 1) := by decide +kernel
theorem dX4_become_109 : decode cX4_become 109 = .ok (.bipush 8, 2) := by decide +kernel
theorem dX4_become_111 : decode cX4_become 111 = .ok (.invokestatic 52, 3) := by decide +kernel
theorem dX4_become_114 : decode cX4_become 114 = .ok (.return_, 1) := by decide +kernel
theorem dX4_has_0 : decode cX4_has 0 = .ok (.iload_n 1, 1) := by decide +kernel
theorem dX4_has_1 : decode cX4_has 1 = .ok (.ifCond .lt 15, 3) := by decide +kernel
theorem dX4_has_4 : decode cX4_has 4 = .ok (.iload_n 1, 1) := by decide +kernel
theorem dX4_has_5 : decode cX4_has 5 = .ok (.aload_n 0, 1) := by decide +kernel
theorem dX4_has_6 : decode cX4_has 6 = .ok (.getfield 49, 3) := by decide +kernel
theorem dX4_has_9 : decode cX4_has 9 = .ok (.if_icmp .ge 7, 3) := by decide +kernel
theorem dX4_has_12 : decode cX4_has 12 = .ok (.iconst 1, 1) := by decide +kernel
theorem dX4_has_13 : decode cX4_has 13 = .ok (.goto 4, 3) := by decide +kernel
theorem dX4_has_16 : decode cX4_has 16 = .ok (.iconst 0, 1) := by decide +kernel
theorem dX4_has_17 : decode cX4_has 17 = .ok (.ireturn, 1) := by decide +kernel
theorem dX4_isFull_0 : decode cX4_isFull 0 = .ok (.aload_n 0, 1) := by decide +kernel
theorem dX4_isFull_1 : decode cX4_isFull 1 = .ok (.getfield 49, 3) := by decide +kernel
theorem dX4_isFull_4 : decode cX4_isFull 4 = .ok (.bipush 8, 2) := by decide +kernel
theorem dX4_isFull_6 : decode cX4_isFull 6 = .ok (.if_icmp .lt 7, 3) := by decide +kernel
theorem dX4_isFull_9 : decode cX4_isFull 9 = .ok (.iconst 1, 1) := by decide +kernel
theorem dX4_isFull_10 : decode cX4_isFull 10 = .ok (.goto 4, 3) := by decide +kernel
theorem dX4_isFull_13 : decode cX4_isFull 13 = .ok (.iconst 0, 1) := by decide +kernel
theorem dX4_isFull_14 : decode cX4_isFull 14 = .ok (.ireturn, 1) := by decide +kernel
theorem dX4_add_0 : decode cX4_add 0 = .ok (.aload_n 0, 1) := by decide +kernel
theorem dX4_add_1 : decode cX4_add 1 = .ok (.getfield 49, 3) := by decide +kernel
theorem dX4_add_4 : decode cX4_add 4 = .ok (.istore_n 2, 1) := by decide +kernel
theorem dX4_add_5 : decode cX4_add 5 = .ok (.aload_n 0, 1) := by decide +kernel
theorem dX4_add_6 : decode cX4_add 6 = .ok (.getfield 15, 3) := by decide +kernel
theorem dX4_add_9 : decode cX4_add 9 = .ok (.iload_n 2, 1) := by decide +kernel
theorem dX4_add_10 : decode cX4_add 10 = .ok (.iload_n 1, 1) := by decide +kernel
theorem dX4_add_11 : decode cX4_add 11 = .ok (.iastore, 1) := by decide +kernel
theorem dX4_add_12 : decode cX4_add 12 = .ok (.aload_n 0, 1) := by decide +kernel
theorem dX4_add_13 : decode cX4_add 13 = .ok (.getfield 19, 3) := by decide +kernel
theorem dX4_add_16 : decode cX4_add 16 = .ok (.iload_n 2, 1) := by decide +kernel
theorem dX4_add_17 : decode cX4_add 17 = .ok (.iconst 5, 1) := by decide +kernel
theorem dX4_add_18 : decode cX4_add 18 = .ok (.iastore, 1) := by decide +kernel
theorem dX4_add_19 : decode cX4_add 19 = .ok (.aload_n 0, 1) := by decide +kernel
theorem dX4_add_20 : decode cX4_add 20 = .ok (.getfield 22, 3) := by decide +kernel
theorem dX4_add_23 : decode cX4_add 23 = .ok (.iload_n 2, 1) := by decide +kernel
theorem dX4_add_24 : decode cX4_add 24 = .ok (.bipush 10, 2) := by decide +kernel
theorem dX4_add_26 : decode cX4_add 26 = .ok (.iastore, 1) := by decide +kernel
theorem dX4_add_27 : decode cX4_add 27 = .ok (.aload_n 0, 1) := by decide +kernel
theorem dX4_add_28 : decode cX4_add 28 = .ok (.getfield 25, 3) := by decide +kernel
theorem dX4_add_31 : decode cX4_add 31 = .ok (.iload_n 2, 1) := by decide +kernel
theorem dX4_add_32 : decode cX4_add 32 = .ok (.bipush 50, 2) := by decide +kernel
theorem dX4_add_34 : decode cX4_add 34 = .ok (.iastore, 1) := by decide +kernel
theorem dX4_add_35 : decode cX4_add 35 = .ok (.aload_n 0, 1) := by decide +kernel
theorem dX4_add_36 : decode cX4_add 36 = .ok (.getfield 28, 3) := by decide +kernel
theorem dX4_add_39 : decode cX4_add 39 = .ok (.iload_n 2, 1) := by decide +kernel
theorem dX4_add_40 : decode cX4_add 40 = .ok (.iconst 0, 1) := by decide +kernel
theorem dX4_add_41 : decode cX4_add 41 = .ok (.iastore, 1) := by decide +kernel
theorem dX4_add_42 : decode cX4_add 42 = .ok (.aload_n 0, 1) := by decide +kernel
theorem dX4_add_43 : decode cX4_add 43 = .ok (.getfield 31, 3) := by decide +kernel
theorem dX4_add_46 : decode cX4_add 46 = .ok (.iload_n 2, 1) := by decide +kernel
theorem dX4_add_47 : decode cX4_add 47 = .ok (.iload_n 2, 1) := by decide +kernel
theorem dX4_add_48 : decode cX4_add 48 = .ok (.iastore, 1) := by decide +kernel
theorem dX4_add_49 : decode cX4_add 49 = .ok (.aload_n 0, 1) := by decide +kernel
theorem dX4_add_50 : decode cX4_add 50 = .ok (.dup, 1) := by decide +kernel
theorem dX4_add_51 : decode cX4_add 51 = .ok (.getfield 49, 3) := by decide +kernel
theorem dX4_add_54 : decode cX4_add 54 = .ok (.iconst 1, 1) := by decide +kernel
theorem dX4_add_55 : decode cX4_add 55 = .ok (.iadd, 1) := by decide +kernel
theorem dX4_add_56 : decode cX4_add 56 = .ok (.putfield 49, 3) := by decide +kernel
theorem dX4_add_59 : decode cX4_add 59 = .ok (.iload_n 2, 1) := by decide +kernel
theorem dX4_add_60 : decode cX4_add 60 = .ok (.ireturn, 1) := by decide +kernel
theorem dX4_isChild_0 : decode cX4_isChild 0 = .ok (.aload_n 0, 1) := by decide +kernel
theorem dX4_isChild_1 : decode cX4_isChild 1 = .ok (.getfield 15, 3) := by decide +kernel
theorem dX4_isChild_4 : decode cX4_isChild 4 = .ok (.iload_n 1, 1) := by decide +kernel
theorem dX4_isChild_5 : decode cX4_isChild 5 = .ok (.iaload, 1) := by decide +kernel
theorem dX4_isChild_6 : decode cX4_isChild 6 = .ok (.iconst 3, 1) := by decide +kernel
theorem dX4_isChild_7 : decode cX4_isChild 7 = .ok (.if_icmp .ne 7, 3) := by decide +kernel
theorem dX4_isChild_10 : decode cX4_isChild 10 = .ok (.iconst 1, 1) := by decide +kernel
theorem dX4_isChild_11 : decode cX4_isChild 11 = .ok (.goto 4, 3) := by decide +kernel
theorem dX4_isChild_14 : decode cX4_isChild 14 = .ok (.iconst 0, 1) := by decide +kernel
theorem dX4_isChild_15 : decode cX4_isChild 15 = .ok (.ireturn, 1) := by decide +kernel
theorem dX4_areAlike_0 : decode cX4_areAlike 0 = .ok (.aload_n 0, 1) := by decide +kernel
theorem dX4_areAlike_1 : decode cX4_areAlike 1 = .ok (.iload_n 1, 1) := by decide +kernel
theorem dX4_areAlike_2 : decode cX4_areAlike 2 = .ok (.invokevirtual 58, 3) := by decide +kernel
theorem dX4_areAlike_5 : decode cX4_areAlike 5 = .ok (.aload_n 0, 1) := by decide +kernel
theorem dX4_areAlike_6 : decode cX4_areAlike 6 = .ok (.iload_n 2, 1) := by decide +kernel
theorem dX4_areAlike_7 : decode cX4_areAlike 7 = .ok (.invokevirtual 58, 3) := by decide +kernel
theorem dX4_areAlike_10 : decode cX4_areAlike 10 = .ok (.if_icmp .ne 7, 3) := by decide +kernel
theorem dX4_areAlike_13 : decode cX4_areAlike 13 = .ok (.iconst 1, 1) := by decide +kernel
theorem dX4_areAlike_14 : decode cX4_areAlike 14 = .ok (.goto 4, 3) := by decide +kernel
theorem dX4_areAlike_17 : decode cX4_areAlike 17 = .ok (.iconst 0, 1) := by decide +kernel
theorem dX4_areAlike_18 : decode cX4_areAlike 18 = .ok (.ireturn, 1) := by decide +kernel
theorem dX4_earning_0 : decode cX4_earning 0 = .ok (.aload_n 0, 1) := by decide +kernel
theorem dX4_earning_1 : decode cX4_earning 1 = .ok (.aload_n 0, 1) := by decide +kernel
theorem dX4_earning_2 : decode cX4_earning 2 = .ok (.getfield 15, 3) := by decide +kernel
theorem dX4_earning_5 : decode cX4_earning 5 = .ok (.iload_n 1, 1) := by decide +kernel
theorem dX4_earning_6 : decode cX4_earning 6 = .ok (.iaload, 1) := by decide +kernel
theorem dX4_earning_7 : decode cX4_earning 7 = .ok (.iload_n 1, 1) := by decide +kernel
theorem dX4_earning_8 : decode cX4_earning 8 = .ok (.iload_n 2, 1) := by decide +kernel
theorem dX4_earning_9 : decode cX4_earning 9 = .ok (.invokevirtual 62, 3) := by decide +kernel
theorem dX4_earning_12 : decode cX4_earning 12 = .ok (.ireturn, 1) := by decide +kernel
theorem dX4_earningAs_0 : decode cX4_earningAs 0 = .ok (.iload_n 2, 1) := by decide +kernel
theorem dX4_earningAs_1 : decode cX4_earningAs 1 = .ok (.iload_n 3, 1) := by decide +kernel
theorem dX4_earningAs_2 : decode cX4_earningAs 2 = .ok (.if_icmp .ne 7, 3) := by decide +kernel
theorem dX4_earningAs_5 : decode cX4_earningAs 5 = .ok (.iconst 0, 1) := by decide +kernel
theorem dX4_earningAs_6 : decode cX4_earningAs 6 = .ok (.goto 31, 3) := by decide +kernel
theorem dX4_earningAs_9 : decode cX4_earningAs 9 = .ok (.iload_n 1, 1) := by decide +kernel
theorem dX4_earningAs_10 : decode cX4_earningAs 10 = .ok (.aload_n 0, 1) := by decide +kernel
theorem dX4_earningAs_11 : decode cX4_earningAs 11 = .ok (.getfield 19, 3) := by decide +kernel
theorem dX4_earningAs_14 : decode cX4_earningAs 14 = .ok (.iload_n 2, 1) := by decide +kernel
theorem dX4_earningAs_15 : decode cX4_earningAs 15 = .ok (.iaload, 1) := by decide +kernel
theorem dX4_earningAs_16 : decode cX4_earningAs 16 = .ok (.aload_n 0, 1) := by decide +kernel
theorem dX4_earningAs_17 : decode cX4_earningAs 17 = .ok (.getfield 19, 3) := by decide +kernel
theorem dX4_earningAs_20 : decode cX4_earningAs 20 = .ok (.iload_n 3, 1) := by decide +kernel
theorem dX4_earningAs_21 : decode cX4_earningAs 21 = .ok (.iaload, 1) := by decide +kernel
theorem dX4_earningAs_22 : decode cX4_earningAs 22 = .ok (.aload_n 0, 1) := by decide +kernel
theorem dX4_earningAs_23 : decode cX4_earningAs 23 = .ok (.getfield 25, 3) := by decide +kernel
theorem dX4_earningAs_26 : decode cX4_earningAs 26 = .ok (.iload_n 2, 1) := by decide +kernel
theorem dX4_earningAs_27 : decode cX4_earningAs 27 = .ok (.iaload, 1) := by decide +kernel
theorem dX4_earningAs_28 : decode cX4_earningAs 28 = .ok (.aload_n 0, 1) := by decide +kernel
theorem dX4_earningAs_29 : decode cX4_earningAs 29 = .ok (.getfield 28, 3) := by decide +kernel
theorem dX4_earningAs_32 : decode cX4_earningAs 32 = .ok (.iload_n 2, 1) := by decide +kernel
theorem dX4_earningAs_33 : decode cX4_earningAs 33 = .ok (.iaload, 1) := by decide +kernel
theorem dX4_earningAs_34 : decode cX4_earningAs 34 = .ok (.invokestatic 66, 3) := by decide +kernel
theorem dX4_earningAs_37 : decode cX4_earningAs 37 = .ok (.ireturn, 1) := by decide +kernel
theorem dX4_saying_0 : decode cX4_saying 0 = .ok (.iload_n 1, 1) := by decide +kernel
theorem dX4_saying_1 : decode cX4_saying 1 = .ok (.iload_n 2, 1) := by decide +kernel
theorem dX4_saying_2 : decode cX4_saying 2 = .ok (.if_icmp .ne 7, 3) := by decide +kernel
theorem dX4_saying_5 : decode cX4_saying 5 = .ok (.iconst 0, 1) := by decide +kernel
theorem dX4_saying_6 : decode cX4_saying 6 = .ok (.goto 24, 3) := by decide +kernel
theorem dX4_saying_9 : decode cX4_saying 9 = .ok (.aload_n 0, 1) := by decide +kernel
theorem dX4_saying_10 : decode cX4_saying 10 = .ok (.getfield 15, 3) := by decide +kernel
theorem dX4_saying_13 : decode cX4_saying 13 = .ok (.iload_n 1, 1) := by decide +kernel
theorem dX4_saying_14 : decode cX4_saying 14 = .ok (.iaload, 1) := by decide +kernel
theorem dX4_saying_15 : decode cX4_saying 15 = .ok (.aload_n 0, 1) := by decide +kernel
theorem dX4_saying_16 : decode cX4_saying 16 = .ok (.getfield 19, 3) := by decide +kernel
theorem dX4_saying_19 : decode cX4_saying 19 = .ok (.iload_n 1, 1) := by decide +kernel
theorem dX4_saying_20 : decode cX4_saying 20 = .ok (.iaload, 1) := by decide +kernel
theorem dX4_saying_21 : decode cX4_saying 21 = .ok (.aload_n 0, 1) := by decide +kernel
theorem dX4_saying_22 : decode cX4_saying 22 = .ok (.getfield 19, 3) := by decide +kernel
theorem dX4_saying_25 : decode cX4_saying 25 = .ok (.iload_n 2, 1) := by decide +kernel
theorem dX4_saying_26 : decode cX4_saying 26 = .ok (.iaload, 1) := by decide +kernel
theorem dX4_saying_27 : decode cX4_saying 27 = .ok (.invokestatic 71, 3) := by decide +kernel
theorem dX4_saying_30 : decode cX4_saying 30 = .ok (.ireturn, 1) := by decide +kernel
theorem dX4_hearing_0 : decode cX4_hearing 0 = .ok (.iload_n 1, 1) := by decide +kernel
theorem dX4_hearing_1 : decode cX4_hearing 1 = .ok (.iload_n 2, 1) := by decide +kernel
theorem dX4_hearing_2 : decode cX4_hearing 2 = .ok (.if_icmp .ne 7, 3) := by decide +kernel
theorem dX4_hearing_5 : decode cX4_hearing 5 = .ok (.iconst 0, 1) := by decide +kernel
theorem dX4_hearing_6 : decode cX4_hearing 6 = .ok (.goto 18, 3) := by decide +kernel
theorem dX4_hearing_9 : decode cX4_hearing 9 = .ok (.aload_n 0, 1) := by decide +kernel
theorem dX4_hearing_10 : decode cX4_hearing 10 = .ok (.getfield 15, 3) := by decide +kernel
theorem dX4_hearing_13 : decode cX4_hearing 13 = .ok (.iload_n 1, 1) := by decide +kernel
theorem dX4_hearing_14 : decode cX4_hearing 14 = .ok (.iaload, 1) := by decide +kernel
theorem dX4_hearing_15 : decode cX4_hearing 15 = .ok (.aload_n 0, 1) := by decide +kernel
theorem dX4_hearing_16 : decode cX4_hearing 16 = .ok (.getfield 25, 3) := by decide +kernel
theorem dX4_hearing_19 : decode cX4_hearing 19 = .ok (.iload_n 2, 1) := by decide +kernel
theorem dX4_hearing_20 : decode cX4_hearing 20 = .ok (.iaload, 1) := by decide +kernel
theorem dX4_hearing_21 : decode cX4_hearing 21 = .ok (.invokestatic 73, 3) := by decide +kernel
theorem dX4_hearing_24 : decode cX4_hearing 24 = .ok (.ireturn, 1) := by decide +kernel
theorem dX4_earnings_0 : decode cX4_earnings 0 = .ok (.iconst 0, 1) := by decide +kernel
theorem dX4_earnings_1 : decode cX4_earnings 1 = .ok (.istore_n 1, 1) := by decide +kernel
theorem dX4_earnings_2 : decode cX4_earnings 2 = .ok (.iconst 0, 1) := by decide +kernel
theorem dX4_earnings_3 : decode cX4_earnings 3 = .ok (.istore_n 2, 1) := by decide +kernel
theorem dX4_earnings_4 : decode cX4_earnings 4 = .ok (.iload_n 2, 1) := by decide +kernel
theorem dX4_earnings_5 : decode cX4_earnings 5 = .ok (.aload_n 0, 1) := by decide +kernel
theorem dX4_earnings_6 : decode cX4_earnings 6 = .ok (.getfield 49, 3) := by decide +kernel
theorem dX4_earnings_9 : decode cX4_earnings 9 = .ok (.if_icmp .ge 23, 3) := by decide +kernel
theorem dX4_earnings_12 : decode cX4_earnings 12 = .ok (.iload_n 1, 1) := by decide +kernel
theorem dX4_earnings_13 : decode cX4_earnings 13 = .ok (.aload_n 0, 1) := by decide +kernel
theorem dX4_earnings_14 : decode cX4_earnings 14 = .ok (.iload_n 2, 1) := by decide +kernel
theorem dX4_earnings_15 : decode cX4_earnings 15 = .ok (.aload_n 0, 1) := by decide +kernel
theorem dX4_earnings_16 : decode cX4_earnings 16 = .ok (.getfield 31, 3) := by decide +kernel
theorem dX4_earnings_19 : decode cX4_earnings 19 = .ok (.iload_n 2, 1) := by decide +kernel
theorem dX4_earnings_20 : decode cX4_earnings 20 = .ok (.iaload, 1) := by decide +kernel
theorem dX4_earnings_21 : decode cX4_earnings 21 = .ok (.invokevirtual 76, 3) := by decide +kernel
theorem dX4_earnings_24 : decode cX4_earnings 24 = .ok (.iadd, 1) := by decide +kernel
theorem dX4_earnings_25 : decode cX4_earnings 25 = .ok (.istore_n 1, 1) := by decide +kernel
theorem dX4_earnings_26 : decode cX4_earnings 26 = .ok (.iinc 2 1, 3) := by decide +kernel
theorem dX4_earnings_29 : decode cX4_earnings 29 = .ok (.goto (-25), 3) := by decide +kernel
theorem dX4_earnings_32 : decode cX4_earnings 32 = .ok (.iload_n 1, 1) := by decide +kernel
theorem dX4_earnings_33 : decode cX4_earnings 33 = .ok (.ireturn, 1) := by decide +kernel
theorem dX4_gainOfExchange_0 : decode cX4_gainOfExchange 0 = .ok (.aload_n 0, 1) := by decide +kernel
theorem dX4_gainOfExchange_1 : decode cX4_gainOfExchange 1 = .ok (.iload_n 1, 1) := by decide +kernel
theorem dX4_gainOfExchange_2 : decode cX4_gainOfExchange 2 = .ok (.aload_n 0, 1) := by decide +kernel
theorem dX4_gainOfExchange_3 : decode cX4_gainOfExchange 3 = .ok (.getfield 31, 3) := by decide +kernel
theorem dX4_gainOfExchange_6 : decode cX4_gainOfExchange 6 = .ok (.iload_n 1, 1) := by decide +kernel
theorem dX4_gainOfExchange_7 : decode cX4_gainOfExchange 7 = .ok (.iaload, 1) := by decide +kernel
theorem dX4_gainOfExchange_8 : decode cX4_gainOfExchange 8 = .ok (.invokevirtual 76, 3) := by decide +kernel
theorem dX4_gainOfExchange_11 : decode cX4_gainOfExchange 11 = .ok (.aload_n 0, 1) := by decide +kernel
theorem dX4_gainOfExchange_12 : decode cX4_gainOfExchange 12 = .ok (.iload_n 2, 1) := by decide +kernel
theorem dX4_gainOfExchange_13 : decode cX4_gainOfExchange 13 = .ok (.aload_n 0, 1) := by decide +kernel
theorem dX4_gainOfExchange_14 : decode cX4_gainOfExchange 14 = .ok (.getfield 31, 3) := by decide +kernel
theorem dX4_gainOfExchange_17 : decode cX4_gainOfExchange 17 = .ok (.iload_n 2, 1) := by decide +kernel
theorem dX4_gainOfExchange_18 : decode cX4_gainOfExchange 18 = .ok (.iaload, 1) := by decide +kernel
theorem dX4_gainOfExchange_19 : decode cX4_gainOfExchange 19 = .ok (.invokevirtual 76, 3) := by decide +kernel
theorem dX4_gainOfExchange_22 : decode cX4_gainOfExchange 22 = .ok (.iadd, 1) := by decide +kernel
theorem dX4_gainOfExchange_23 : decode cX4_gainOfExchange 23 = .ok (.istore_n 3, 1) := by decide +kernel
theorem dX4_gainOfExchange_24 : decode cX4_gainOfExchange 24 = .ok (.aload_n 0, 1) := by decide +kernel
theorem dX4_gainOfExchange_25 : decode cX4_gainOfExchange 25 = .ok (.iload_n 1, 1) := by decide +kernel
theorem dX4_gainOfExchange_26 : decode cX4_gainOfExchange 26 = .ok (.aload_n 0, 1) := by decide +kernel
theorem dX4_gainOfExchange_27 : decode cX4_gainOfExchange 27 = .ok (.getfield 31, 3) := by decide +kernel
theorem dX4_gainOfExchange_30 : decode cX4_gainOfExchange 30 = .ok (.iload_n 2, 1) := by decide +kernel
theorem dX4_gainOfExchange_31 : decode cX4_gainOfExchange 31 = .ok (.iaload, 1) := by decide +kernel
theorem dX4_gainOfExchange_32 : decode cX4_gainOfExchange 32 = .ok (.invokevirtual 76, 3) := by decide +kernel
theorem dX4_gainOfExchange_35 : decode cX4_gainOfExchange 35 = .ok (.aload_n 0, 1) := by decide +kernel
theorem dX4_gainOfExchange_36 : decode cX4_gainOfExchange 36 = .ok (.iload_n 2, 1) := by decide +kernel
theorem dX4_gainOfExchange_37 : decode cX4_gainOfExchange 37 = .ok (.aload_n 0, 1) := by decide +kernel
theorem dX4_gainOfExchange_38 : decode cX4_gainOfExchange 38 = .ok (.getfield 31, 3) := by decide +kernel
theorem dX4_gainOfExchange_41 : decode cX4_gainOfExchange 41 = .ok (.iload_n 1, 1) := by decide +kernel
theorem dX4_gainOfExchange_42 : decode cX4_gainOfExchange 42 = .ok (.iaload, 1) := by decide +kernel
theorem dX4_gainOfExchange_43 : decode cX4_gainOfExchange 43 = .ok (.invokevirtual 76, 3) := by decide +kernel
theorem dX4_gainOfExchange_46 : decode cX4_gainOfExchange 46 = .ok (.iadd, 1) := by decide +kernel
theorem dX4_gainOfExchange_47 : decode cX4_gainOfExchange 47 = .ok (.iload_n 3, 1) := by decide +kernel
theorem dX4_gainOfExchange_48 : decode cX4_gainOfExchange 48 = .ok (.isub, 1) := by decide +kernel
theorem dX4_gainOfExchange_49 : decode cX4_gainOfExchange 49 = .ok (.ireturn, 1) := by decide +kernel
theorem dX4_total_0 : decode cX4_total 0 = .ok (.iconst 0, 1) := by decide +kernel
theorem dX4_total_1 : decode cX4_total 1 = .ok (.istore_n 2, 1) := by decide +kernel
theorem dX4_total_2 : decode cX4_total 2 = .ok (.iconst 0, 1) := by decide +kernel
theorem dX4_total_3 : decode cX4_total 3 = .ok (.istore_n 3, 1) := by decide +kernel
theorem dX4_total_4 : decode cX4_total 4 = .ok (.iload_n 3, 1) := by decide +kernel
theorem dX4_total_5 : decode cX4_total 5 = .ok (.aload_n 0, 1) := by decide +kernel
theorem dX4_total_6 : decode cX4_total 6 = .ok (.getfield 49, 3) := by decide +kernel
theorem dX4_total_9 : decode cX4_total 9 = .ok (.if_icmp .ge 15, 3) := by decide +kernel
theorem dX4_total_12 : decode cX4_total 12 = .ok (.iload_n 2, 1) := by decide +kernel
theorem dX4_total_13 : decode cX4_total 13 = .ok (.aload_n 1, 1) := by decide +kernel
theorem dX4_total_14 : decode cX4_total 14 = .ok (.iload_n 3, 1) := by decide +kernel
theorem dX4_total_15 : decode cX4_total 15 = .ok (.iaload, 1) := by decide +kernel
theorem dX4_total_16 : decode cX4_total 16 = .ok (.iadd, 1) := by decide +kernel
theorem dX4_total_17 : decode cX4_total 17 = .ok (.istore_n 2, 1) := by decide +kernel
theorem dX4_total_18 : decode cX4_total 18 = .ok (.iinc 3 1, 3) := by decide +kernel
theorem dX4_total_21 : decode cX4_total 21 = .ok (.goto (-17), 3) := by decide +kernel
theorem dX4_total_24 : decode cX4_total 24 = .ok (.iload_n 2, 1) := by decide +kernel
theorem dX4_total_25 : decode cX4_total 25 = .ok (.ireturn, 1) := by decide +kernel
theorem dX4_childrenSet_0 : decode cX4_childrenSet 0 = .ok (.iconst 0, 1) := by decide +kernel
theorem dX4_childrenSet_1 : decode cX4_childrenSet 1 = .ok (.istore_n 1, 1) := by decide +kernel
theorem dX4_childrenSet_2 : decode cX4_childrenSet 2 = .ok (.iconst 0, 1) := by decide +kernel
theorem dX4_childrenSet_3 : decode cX4_childrenSet 3 = .ok (.istore_n 2, 1) := by decide +kernel
theorem dX4_childrenSet_4 : decode cX4_childrenSet 4 = .ok (.iload_n 2, 1) := by decide +kernel
theorem dX4_childrenSet_5 : decode cX4_childrenSet 5 = .ok (.aload_n 0, 1) := by decide +kernel
theorem dX4_childrenSet_6 : decode cX4_childrenSet 6 = .ok (.getfield 49, 3) := by decide +kernel
theorem dX4_childrenSet_9 : decode cX4_childrenSet 9 = .ok (.if_icmp .ge 23, 3) := by decide +kernel
theorem dX4_childrenSet_12 : decode cX4_childrenSet 12 = .ok (.aload_n 0, 1) := by decide +kernel
theorem dX4_childrenSet_13 : decode cX4_childrenSet 13 = .ok (.iload_n 2, 1) := by decide +kernel
theorem dX4_childrenSet_14 : decode cX4_childrenSet 14 = .ok (.invokevirtual 58, 3) := by decide +kernel
theorem dX4_childrenSet_17 : decode cX4_childrenSet 17 = .ok (.ifCond .eq 9, 3) := by decide +kernel
theorem dX4_childrenSet_20 : decode cX4_childrenSet 20 = .ok (.iload_n 1, 1) := by decide +kernel
theorem dX4_childrenSet_21 : decode cX4_childrenSet 21 = .ok (.iconst 1, 1) := by decide +kernel
theorem dX4_childrenSet_22 : decode cX4_childrenSet 22 = .ok (.iload_n 2, 1) := by decide +kernel
theorem dX4_childrenSet_23 : decode cX4_childrenSet 23 = .ok (.ishl, 1) := by decide +kernel
theorem dX4_childrenSet_24 : decode cX4_childrenSet 24 = .ok (.ior, 1) := by decide +kernel
theorem dX4_childrenSet_25 : decode cX4_childrenSet 25 = .ok (.istore_n 1, 1) := by decide +kernel
theorem dX4_childrenSet_26 : decode cX4_childrenSet 26 = .ok (.iinc 2 1, 3) := by decide +kernel
theorem dX4_childrenSet_29 : decode cX4_childrenSet 29 = .ok (.goto (-25), 3) := by decide +kernel
theorem dX4_childrenSet_32 : decode cX4_childrenSet 32 = .ok (.iload_n 1, 1) := by decide +kernel
theorem dX4_childrenSet_33 : decode cX4_childrenSet 33 = .ok (.ireturn, 1) := by decide +kernel
theorem dX4_ownSet_0 : decode cX4_ownSet 0 = .ok (.iconst 0, 1) := by decide +kernel
theorem dX4_ownSet_1 : decode cX4_ownSet 1 = .ok (.istore_n 1, 1) := by decide +kernel
theorem dX4_ownSet_2 : decode cX4_ownSet 2 = .ok (.iconst 0, 1) := by decide +kernel
theorem dX4_ownSet_3 : decode cX4_ownSet 3 = .ok (.istore_n 2, 1) := by decide +kernel
theorem dX4_ownSet_4 : decode cX4_ownSet 4 = .ok (.iload_n 2, 1) := by decide +kernel
theorem dX4_ownSet_5 : decode cX4_ownSet 5 = .ok (.aload_n 0, 1) := by decide +kernel
theorem dX4_ownSet_6 : decode cX4_ownSet 6 = .ok (.getfield 49, 3) := by decide +kernel
theorem dX4_ownSet_9 : decode cX4_ownSet 9 = .ok (.if_icmp .ge 25, 3) := by decide +kernel
theorem dX4_ownSet_12 : decode cX4_ownSet 12 = .ok (.aload_n 0, 1) := by decide +kernel
theorem dX4_ownSet_13 : decode cX4_ownSet 13 = .ok (.getfield 31, 3) := by decide +kernel
theorem dX4_ownSet_16 : decode cX4_ownSet 16 = .ok (.iload_n 2, 1) := by decide +kernel
theorem dX4_ownSet_17 : decode cX4_ownSet 17 = .ok (.iaload, 1) := by decide +kernel
theorem dX4_ownSet_18 : decode cX4_ownSet 18 = .ok (.iload_n 2, 1) := by decide +kernel
theorem dX4_ownSet_19 : decode cX4_ownSet 19 = .ok (.if_icmp .ne 9, 3) := by decide +kernel
theorem dX4_ownSet_22 : decode cX4_ownSet 22 = .ok (.iload_n 1, 1) := by decide +kernel
theorem dX4_ownSet_23 : decode cX4_ownSet 23 = .ok (.iconst 1, 1) := by decide +kernel
theorem dX4_ownSet_24 : decode cX4_ownSet 24 = .ok (.iload_n 2, 1) := by decide +kernel
theorem dX4_ownSet_25 : decode cX4_ownSet 25 = .ok (.ishl, 1) := by decide +kernel
theorem dX4_ownSet_26 : decode cX4_ownSet 26 = .ok (.ior, 1) := by decide +kernel
theorem dX4_ownSet_27 : decode cX4_ownSet 27 = .ok (.istore_n 1, 1) := by decide +kernel
theorem dX4_ownSet_28 : decode cX4_ownSet 28 = .ok (.iinc 2 1, 3) := by decide +kernel
theorem dX4_ownSet_31 : decode cX4_ownSet 31 = .ok (.goto (-27), 3) := by decide +kernel
theorem dX4_ownSet_34 : decode cX4_ownSet 34 = .ok (.iload_n 1, 1) := by decide +kernel
theorem dX4_ownSet_35 : decode cX4_ownSet 35 = .ok (.ireturn, 1) := by decide +kernel
theorem dX4_ownCount_0 : decode cX4_ownCount 0 = .ok (.aload_n 0, 1) := by decide +kernel
theorem dX4_ownCount_1 : decode cX4_ownCount 1 = .ok (.invokevirtual 79, 3) := by decide +kernel
theorem dX4_ownCount_4 : decode cX4_ownCount 4 = .ok (.invokestatic 83, 3) := by decide +kernel
theorem dX4_ownCount_7 : decode cX4_ownCount 7 = .ok (.ireturn, 1) := by decide +kernel
theorem dX4_ringSet_0 : decode cX4_ringSet 0 = .ok (.iconst 0, 1) := by decide +kernel
theorem dX4_ringSet_1 : decode cX4_ringSet 1 = .ok (.istore_n 2, 1) := by decide +kernel
theorem dX4_ringSet_2 : decode cX4_ringSet 2 = .ok (.iload_n 1, 1) := by decide +kernel
theorem dX4_ringSet_3 : decode cX4_ringSet 3 = .ok (.istore_n 3, 1) := by decide +kernel
theorem dX4_ringSet_4 : decode cX4_ringSet 4 = .ok (.iconst 0, 1) := by decide +kernel
theorem dX4_ringSet_5 : decode cX4_ringSet 5 = .ok (.istore 4, 2) := by decide +kernel
theorem dX4_ringSet_7 : decode cX4_ringSet 7 = .ok (.iload 4, 2) := by decide +kernel
theorem dX4_ringSet_9 : decode cX4_ringSet 9 = .ok (.aload_n 0, 1) := by decide +kernel
theorem dX4_ringSet_10 : decode cX4_ringSet 10 = .ok (.getfield 49, 3) := by decide +kernel
theorem dX4_ringSet_13 : decode cX4_ringSet 13 = .ok (.if_icmp .ge 22, 3) := by decide +kernel
theorem dX4_ringSet_16 : decode cX4_ringSet 16 = .ok (.iload_n 2, 1) := by decide +kernel
theorem dX4_ringSet_17 : decode cX4_ringSet 17 = .ok (.iconst 1, 1) := by decide +kernel
theorem dX4_ringSet_18 : decode cX4_ringSet 18 = .ok (.iload_n 3, 1) := by decide +kernel
theorem dX4_ringSet_19 : decode cX4_ringSet 19 = .ok (.ishl, 1) := by decide +kernel
theorem dX4_ringSet_20 : decode cX4_ringSet 20 = .ok (.ior, 1) := by decide +kernel
theorem dX4_ringSet_21 : decode cX4_ringSet 21 = .ok (.istore_n 2, 1) := by decide +kernel
theorem dX4_ringSet_22 : decode cX4_ringSet 22 = .ok (.aload_n 0, 1) := by decide +kernel
theorem dX4_ringSet_23 : decode cX4_ringSet 23 = .ok (.getfield 31, 3) := by decide +kernel
theorem dX4_ringSet_26 : decode cX4_ringSet 26 = .ok (.iload_n 3, 1) := by decide +kernel
theorem dX4_ringSet_27 : decode cX4_ringSet 27 = .ok (.iaload, 1) := by decide +kernel
theorem dX4_ringSet_28 : decode cX4_ringSet 28 = .ok (.istore_n 3, 1) := by decide +kernel
theorem dX4_ringSet_29 : decode cX4_ringSet 29 = .ok (.iinc 4 1, 3) := by decide +kernel
theorem dX4_ringSet_32 : decode cX4_ringSet 32 = .ok (.goto (-25), 3) := by decide +kernel
theorem dX4_ringSet_35 : decode cX4_ringSet 35 = .ok (.iload_n 2, 1) := by decide +kernel
theorem dX4_ringSet_36 : decode cX4_ringSet 36 = .ok (.ireturn, 1) := by decide +kernel
theorem dX4_isLotRight_0 : decode cX4_isLotRight 0 = .ok (.iconst 0, 1) := by decide +kernel
theorem dX4_isLotRight_1 : decode cX4_isLotRight 1 = .ok (.istore_n 1, 1) := by decide +kernel
theorem dX4_isLotRight_2 : decode cX4_isLotRight 2 = .ok (.iload_n 1, 1) := by decide +kernel
theorem dX4_isLotRight_3 : decode cX4_isLotRight 3 = .ok (.aload_n 0, 1) := by decide +kernel
theorem dX4_isLotRight_4 : decode cX4_isLotRight 4 = .ok (.getfield 49, 3) := by decide +kernel
theorem dX4_isLotRight_7 : decode cX4_isLotRight 7 = .ok (.if_icmp .ge 25, 3) := by decide +kernel
theorem dX4_isLotRight_10 : decode cX4_isLotRight 10 = .ok (.aload_n 0, 1) := by decide +kernel
theorem dX4_isLotRight_11 : decode cX4_isLotRight 11 = .ok (.iload_n 1, 1) := by decide +kernel
theorem dX4_isLotRight_12 : decode cX4_isLotRight 12 = .ok (.aload_n 0, 1) := by decide +kernel
theorem dX4_isLotRight_13 : decode cX4_isLotRight 13 = .ok (.getfield 31, 3) := by decide +kernel
theorem dX4_isLotRight_16 : decode cX4_isLotRight 16 = .ok (.iload_n 1, 1) := by decide +kernel
theorem dX4_isLotRight_17 : decode cX4_isLotRight 17 = .ok (.iaload, 1) := by decide +kernel
theorem dX4_isLotRight_18 : decode cX4_isLotRight 18 = .ok (.invokevirtual 89, 3) := by decide +kernel
theorem dX4_isLotRight_21 : decode cX4_isLotRight 21 = .ok (.ifCond .ne 5, 3) := by decide +kernel
theorem dX4_isLotRight_24 : decode cX4_isLotRight 24 = .ok (.iconst 0, 1) := by decide +kernel
theorem dX4_isLotRight_25 : decode cX4_isLotRight 25 = .ok (.ireturn, 1) := by decide +kernel
theorem dX4_isLotRight_26 : decode cX4_isLotRight 26 = .ok (.iinc 1 1, 3) := by decide +kernel
theorem dX4_isLotRight_29 : decode cX4_isLotRight 29 = .ok (.goto (-27), 3) := by decide +kernel
theorem dX4_isLotRight_32 : decode cX4_isLotRight 32 = .ok (.iconst 1, 1) := by decide +kernel
theorem dX4_isLotRight_33 : decode cX4_isLotRight 33 = .ok (.ireturn, 1) := by decide +kernel
theorem dX4_holder_0 : decode cX4_holder 0 = .ok (.iconst 0, 1) := by decide +kernel
theorem dX4_holder_1 : decode cX4_holder 1 = .ok (.istore_n 2, 1) := by decide +kernel
theorem dX4_holder_2 : decode cX4_holder 2 = .ok (.iload_n 2, 1) := by decide +kernel
theorem dX4_holder_3 : decode cX4_holder 3 = .ok (.aload_n 0, 1) := by decide +kernel
theorem dX4_holder_4 : decode cX4_holder 4 = .ok (.getfield 49, 3) := by decide +kernel
theorem dX4_holder_7 : decode cX4_holder 7 = .ok (.if_icmp .ge 21, 3) := by decide +kernel
theorem dX4_holder_10 : decode cX4_holder 10 = .ok (.aload_n 0, 1) := by decide +kernel
theorem dX4_holder_11 : decode cX4_holder 11 = .ok (.getfield 31, 3) := by decide +kernel
theorem dX4_holder_14 : decode cX4_holder 14 = .ok (.iload_n 2, 1) := by decide +kernel
theorem dX4_holder_15 : decode cX4_holder 15 = .ok (.iaload, 1) := by decide +kernel
theorem dX4_holder_16 : decode cX4_holder 16 = .ok (.iload_n 1, 1) := by decide +kernel
theorem dX4_holder_17 : decode cX4_holder 17 = .ok (.if_icmp .ne 5, 3) := by decide +kernel
theorem dX4_holder_20 : decode cX4_holder 20 = .ok (.iload_n 2, 1) := by decide +kernel
theorem dX4_holder_21 : decode cX4_holder 21 = .ok (.ireturn, 1) := by decide +kernel
theorem dX4_holder_22 : decode cX4_holder 22 = .ok (.iinc 2 1, 3) := by decide +kernel
theorem dX4_holder_25 : decode cX4_holder 25 = .ok (.goto (-23), 3) := by decide +kernel
theorem dX4_holder_28 : decode cX4_holder 28 = .ok (.iload_n 1, 1) := by decide +kernel
theorem dX4_holder_29 : decode cX4_holder 29 = .ok (.ireturn, 1) := by decide +kernel
theorem dX4_exchange_0 : decode cX4_exchange 0 = .ok (.aload_n 0, 1) := by decide +kernel
theorem dX4_exchange_1 : decode cX4_exchange 1 = .ok (.getfield 31, 3) := by decide +kernel
theorem dX4_exchange_4 : decode cX4_exchange 4 = .ok (.iload_n 1, 1) := by decide +kernel
theorem dX4_exchange_5 : decode cX4_exchange 5 = .ok (.iaload, 1) := by decide +kernel
theorem dX4_exchange_6 : decode cX4_exchange 6 = .ok (.istore_n 3, 1) := by decide +kernel
theorem dX4_exchange_7 : decode cX4_exchange 7 = .ok (.aload_n 0, 1) := by decide +kernel
theorem dX4_exchange_8 : decode cX4_exchange 8 = .ok (.getfield 31, 3) := by decide +kernel
theorem dX4_exchange_11 : decode cX4_exchange 11 = .ok (.iload_n 1, 1) := by decide +kernel
theorem dX4_exchange_12 : decode cX4_exchange 12 = .ok (.aload_n 0, 1) := by decide +kernel
theorem dX4_exchange_13 : decode cX4_exchange 13 = .ok (.getfield 31, 3) := by decide +kernel
theorem dX4_exchange_16 : decode cX4_exchange 16 = .ok (.iload_n 2, 1) := by decide +kernel
theorem dX4_exchange_17 : decode cX4_exchange 17 = .ok (.iaload, 1) := by decide +kernel
theorem dX4_exchange_18 : decode cX4_exchange 18 = .ok (.iastore, 1) := by decide +kernel
theorem dX4_exchange_19 : decode cX4_exchange 19 = .ok (.aload_n 0, 1) := by decide +kernel
theorem dX4_exchange_20 : decode cX4_exchange 20 = .ok (.getfield 31, 3) := by decide +kernel
theorem dX4_exchange_23 : decode cX4_exchange 23 = .ok (.iload_n 2, 1) := by decide +kernel
theorem dX4_exchange_24 : decode cX4_exchange 24 = .ok (.iload_n 3, 1) := by decide +kernel
theorem dX4_exchange_25 : decode cX4_exchange 25 = .ok (.iastore, 1) := by decide +kernel
theorem dX4_exchange_26 : decode cX4_exchange 26 = .ok (.return_, 1) := by decide +kernel
theorem dX4_goHome_0 : decode cX4_goHome 0 = .ok (.iconst 0, 1) := by decide +kernel
theorem dX4_goHome_1 : decode cX4_goHome 1 = .ok (.istore_n 1, 1) := by decide +kernel
theorem dX4_goHome_2 : decode cX4_goHome 2 = .ok (.iload_n 1, 1) := by decide +kernel
theorem dX4_goHome_3 : decode cX4_goHome 3 = .ok (.aload_n 0, 1) := by decide +kernel
theorem dX4_goHome_4 : decode cX4_goHome 4 = .ok (.getfield 49, 3) := by decide +kernel
theorem dX4_goHome_7 : decode cX4_goHome 7 = .ok (.if_icmp .ge 16, 3) := by decide +kernel
theorem dX4_goHome_10 : decode cX4_goHome 10 = .ok (.aload_n 0, 1) := by decide +kernel
theorem dX4_goHome_11 : decode cX4_goHome 11 = .ok (.getfield 31, 3) := by decide +kernel
theorem dX4_goHome_14 : decode cX4_goHome 14 = .ok (.iload_n 1, 1) := by decide +kernel
theorem dX4_goHome_15 : decode cX4_goHome 15 = .ok (.iload_n 1, 1) := by decide +kernel
theorem dX4_goHome_16 : decode cX4_goHome 16 = .ok (.iastore, 1) := by decide +kernel
theorem dX4_goHome_17 : decode cX4_goHome 17 = .ok (.iinc 1 1, 3) := by decide +kernel
theorem dX4_goHome_20 : decode cX4_goHome 20 = .ok (.goto (-18), 3) := by decide +kernel
theorem dX4_goHome_23 : decode cX4_goHome 23 = .ok (.return_, 1) := by decide +kernel
theorem dX4_drawLot_0 : decode cX4_drawLot 0 = .ok (.aload_n 0, 1) := by decide +kernel
theorem dX4_drawLot_1 : decode cX4_drawLot 1 = .ok (.invokevirtual 93, 3) := by decide +kernel
theorem dX4_drawLot_4 : decode cX4_drawLot 4 = .ok (.aload_n 0, 1) := by decide +kernel
theorem dX4_drawLot_5 : decode cX4_drawLot 5 = .ok (.iconst 0, 1) := by decide +kernel
theorem dX4_drawLot_6 : decode cX4_drawLot 6 = .ok (.invokevirtual 96, 3) := by decide +kernel
theorem dX4_drawLot_9 : decode cX4_drawLot 9 = .ok (.aload_n 0, 1) := by decide +kernel
theorem dX4_drawLot_10 : decode cX4_drawLot 10 = .ok (.iconst 1, 1) := by decide +kernel
theorem dX4_drawLot_11 : decode cX4_drawLot 11 = .ok (.invokevirtual 96, 3) := by decide +kernel
theorem dX4_drawLot_14 : decode cX4_drawLot 14 = .ok (.return_, 1) := by decide +kernel
theorem dX4_shuffle_0 : decode cX4_shuffle 0 = .ok (.iconst 0, 1) := by decide +kernel
theorem dX4_shuffle_1 : decode cX4_shuffle 1 = .ok (.istore_n 2, 1) := by decide +kernel
theorem dX4_shuffle_2 : decode cX4_shuffle 2 = .ok (.iconst 0, 1) := by decide +kernel
theorem dX4_shuffle_3 : decode cX4_shuffle 3 = .ok (.istore_n 3, 1) := by decide +kernel
theorem dX4_shuffle_4 : decode cX4_shuffle 4 = .ok (.iload_n 3, 1) := by decide +kernel
theorem dX4_shuffle_5 : decode cX4_shuffle 5 = .ok (.aload_n 0, 1) := by decide +kernel
theorem dX4_shuffle_6 : decode cX4_shuffle 6 = .ok (.getfield 49, 3) := by decide +kernel
theorem dX4_shuffle_9 : decode cX4_shuffle 9 = .ok (.if_icmp .ge 28, 3) := by decide +kernel
theorem dX4_shuffle_12 : decode cX4_shuffle 12 = .ok (.aload_n 0, 1) := by decide +kernel
theorem dX4_shuffle_13 : decode cX4_shuffle 13 = .ok (.iload_n 3, 1) := by decide +kernel
theorem dX4_shuffle_14 : decode cX4_shuffle 14 = .ok (.invokevirtual 58, 3) := by decide +kernel
theorem dX4_shuffle_17 : decode cX4_shuffle 17 = .ok (.iload_n 1, 1) := by decide +kernel
theorem dX4_shuffle_18 : decode cX4_shuffle 18 = .ok (.if_icmp .ne 13, 3) := by decide +kernel
theorem dX4_shuffle_21 : decode cX4_shuffle 21 = .ok (.aload_n 0, 1) := by decide +kernel
theorem dX4_shuffle_22 : decode cX4_shuffle 22 = .ok (.getfield 43, 3) := by decide +kernel
theorem dX4_shuffle_25 : decode cX4_shuffle 25 = .ok (.iload_n 2, 1) := by decide +kernel
theorem dX4_shuffle_26 : decode cX4_shuffle 26 = .ok (.iload_n 3, 1) := by decide +kernel
theorem dX4_shuffle_27 : decode cX4_shuffle 27 = .ok (.iastore, 1) := by decide +kernel
theorem dX4_shuffle_28 : decode cX4_shuffle 28 = .ok (.iinc 2 1, 3) := by decide +kernel
theorem dX4_shuffle_31 : decode cX4_shuffle 31 = .ok (.iinc 3 1, 3) := by decide +kernel
theorem dX4_shuffle_34 : decode cX4_shuffle 34 = .ok (.goto (-30), 3) := by decide +kernel
theorem dX4_shuffle_37 : decode cX4_shuffle 37 = .ok (.iload_n 2, 1) := by decide +kernel
theorem dX4_shuffle_38 : decode cX4_shuffle 38 = .ok (.iconst 1, 1) := by decide +kernel
theorem dX4_shuffle_39 : decode cX4_shuffle 39 = .ok (.isub, 1) := by decide +kernel
theorem dX4_shuffle_40 : decode cX4_shuffle 40 = .ok (.istore_n 3, 1) := by decide +kernel
theorem dX4_shuffle_41 : decode cX4_shuffle 41 = .ok (.iload_n 3, 1) := by decide +kernel
theorem dX4_shuffle_42 : decode cX4_shuffle 42 = .ok (.iconst 1, 1) := by decide +kernel
theorem dX4_shuffle_43 : decode cX4_shuffle 43 = .ok (.if_icmp .lt 31, 3) := by decide +kernel
theorem dX4_shuffle_46 : decode cX4_shuffle 46 = .ok (.aload_n 0, 1) := by decide +kernel
theorem dX4_shuffle_47 : decode cX4_shuffle 47 = .ok (.aload_n 0, 1) := by decide +kernel
theorem dX4_shuffle_48 : decode cX4_shuffle 48 = .ok (.getfield 43, 3) := by decide +kernel
theorem dX4_shuffle_51 : decode cX4_shuffle 51 = .ok (.iload_n 3, 1) := by decide +kernel
theorem dX4_shuffle_52 : decode cX4_shuffle 52 = .ok (.iaload, 1) := by decide +kernel
theorem dX4_shuffle_53 : decode cX4_shuffle 53 = .ok (.aload_n 0, 1) := by decide +kernel
theorem dX4_shuffle_54 : decode cX4_shuffle 54 = .ok (.getfield 43, 3) := by decide +kernel
theorem dX4_shuffle_57 : decode cX4_shuffle 57 = .ok (.aload_n 0, 1) := by decide +kernel
theorem dX4_shuffle_58 : decode cX4_shuffle 58 = .ok (.iload_n 3, 1) := by decide +kernel
theorem dX4_shuffle_59 : decode cX4_shuffle 59 = .ok (.iconst 1, 1) := by decide +kernel
theorem dX4_shuffle_60 : decode cX4_shuffle 60 = .ok (.iadd, 1) := by decide +kernel
theorem dX4_shuffle_61 : decode cX4_shuffle 61 = .ok (.invokevirtual 100, 3) := by decide +kernel
theorem dX4_shuffle_64 : decode cX4_shuffle 64 = .ok (.iaload, 1) := by decide +kernel
theorem dX4_shuffle_65 : decode cX4_shuffle 65 = .ok (.invokevirtual 103, 3) := by decide +kernel
theorem dX4_shuffle_68 : decode cX4_shuffle 68 = .ok (.iinc 3 (-1), 3) := by decide +kernel
theorem dX4_shuffle_71 : decode cX4_shuffle 71 = .ok (.goto (-30), 3) := by decide +kernel
theorem dX4_shuffle_74 : decode cX4_shuffle 74 = .ok (.return_, 1) := by decide +kernel
theorem dX4_drawAmong_0 : decode cX4_drawAmong 0 = .ok (.aload_n 0, 1) := by decide +kernel
theorem dX4_drawAmong_1 : decode cX4_drawAmong 1 = .ok (.aload_n 0, 1) := by decide +kernel
theorem dX4_drawAmong_2 : decode cX4_drawAmong 2 = .ok (.getfield 9, 3) := by decide +kernel
theorem dX4_drawAmong_5 : decode cX4_drawAmong 5 = .ok (.ldc 107, 2) := by decide +kernel
theorem dX4_drawAmong_7 : decode cX4_drawAmong 7 = .ok (.imul, 1) := by decide +kernel
theorem dX4_drawAmong_8 : decode cX4_drawAmong 8 = .ok (.sipush 12345, 3) := by decide +kernel
theorem dX4_drawAmong_11 : decode cX4_drawAmong 11 = .ok (.iadd, 1) := by decide +kernel
theorem dX4_drawAmong_12 : decode cX4_drawAmong 12 = .ok (.putfield 9, 3) := by decide +kernel
theorem dX4_drawAmong_15 : decode cX4_drawAmong 15 = .ok (.iload_n 1, 1) := by decide +kernel
theorem dX4_drawAmong_16 : decode cX4_drawAmong 16 = .ok (.ifCond .le 15, 3) := by decide +kernel
theorem dX4_drawAmong_19 : decode cX4_drawAmong 19 = .ok (.aload_n 0, 1) := by decide +kernel
theorem dX4_drawAmong_20 : decode cX4_drawAmong 20 = .ok (.getfield 9, 3) := by decide +kernel
theorem dX4_drawAmong_23 : decode cX4_drawAmong 23 = .ok (.bipush 16, 2) := by decide +kernel
theorem dX4_drawAmong_25 : decode cX4_drawAmong 25 = .ok (.iushr, 1) := by decide +kernel
theorem dX4_drawAmong_26 : decode cX4_drawAmong 26 = .ok (.iload_n 1, 1) := by decide +kernel
theorem dX4_drawAmong_27 : decode cX4_drawAmong 27 = .ok (.irem, 1) := by decide +kernel
theorem dX4_drawAmong_28 : decode cX4_drawAmong 28 = .ok (.goto 4, 3) := by decide +kernel
theorem dX4_drawAmong_31 : decode cX4_drawAmong 31 = .ok (.iconst 0, 1) := by decide +kernel
theorem dX4_drawAmong_32 : decode cX4_drawAmong 32 = .ok (.ireturn, 1) := by decide +kernel
theorem dX4_passFridays_0 : decode cX4_passFridays 0 = .ok (.iconst 0, 1) := by decide +kernel
theorem dX4_passFridays_1 : decode cX4_passFridays 1 = .ok (.istore_n 2, 1) := by decide +kernel
theorem dX4_passFridays_2 : decode cX4_passFridays 2 = .ok (.iload_n 2, 1) := by decide +kernel
theorem dX4_passFridays_3 : decode cX4_passFridays 3 = .ok (.iload_n 1, 1) := by decide +kernel
theorem dX4_passFridays_4 : decode cX4_passFridays 4 = .ok (.if_icmp .ge 13, 3) := by decide +kernel
theorem dX4_passFridays_7 : decode cX4_passFridays 7 = .ok (.aload_n 0, 1) := by decide +kernel
theorem dX4_passFridays_8 : decode cX4_passFridays 8 = .ok (.invokevirtual 108, 3) := by decide +kernel
theorem dX4_passFridays_11 : decode cX4_passFridays 11 = .ok (.iinc 2 1, 3) := by decide +kernel
theorem dX4_passFridays_14 : decode cX4_passFridays 14 = .ok (.goto (-12), 3) := by decide +kernel
theorem dX4_passFridays_17 : decode cX4_passFridays 17 = .ok (.return_, 1) := by decide +kernel
theorem dX4_passFriday_0 : decode cX4_passFriday 0 = .ok (.iconst 0, 1) := by decide +kernel
theorem dX4_passFriday_1 : decode cX4_passFriday 1 = .ok (.istore_n 1, 1) := by decide +kernel
theorem dX4_passFriday_2 : decode cX4_passFriday 2 = .ok (.iload_n 1, 1) := by decide +kernel
theorem dX4_passFriday_3 : decode cX4_passFriday 3 = .ok (.aload_n 0, 1) := by decide +kernel
theorem dX4_passFriday_4 : decode cX4_passFriday 4 = .ok (.getfield 49, 3) := by decide +kernel
theorem dX4_passFriday_7 : decode cX4_passFriday 7 = .ok (.if_icmp .ge 60, 3) := by decide +kernel
theorem dX4_passFriday_10 : decode cX4_passFriday 10 = .ok (.aload_n 0, 1) := by decide +kernel
theorem dX4_passFriday_11 : decode cX4_passFriday 11 = .ok (.getfield 34, 3) := by decide +kernel
theorem dX4_passFriday_14 : decode cX4_passFriday 14 = .ok (.iload_n 1, 1) := by decide +kernel
theorem dX4_passFriday_15 : decode cX4_passFriday 15 = .ok (.aload_n 0, 1) := by decide +kernel
theorem dX4_passFriday_16 : decode cX4_passFriday 16 = .ok (.iload_n 1, 1) := by decide +kernel
theorem dX4_passFriday_17 : decode cX4_passFriday 17 = .ok (.aload_n 0, 1) := by decide +kernel
theorem dX4_passFriday_18 : decode cX4_passFriday 18 = .ok (.getfield 31, 3) := by decide +kernel
theorem dX4_passFriday_21 : decode cX4_passFriday 21 = .ok (.iload_n 1, 1) := by decide +kernel
theorem dX4_passFriday_22 : decode cX4_passFriday 22 = .ok (.iaload, 1) := by decide +kernel
theorem dX4_passFriday_23 : decode cX4_passFriday 23 = .ok (.invokevirtual 76, 3) := by decide +kernel
theorem dX4_passFriday_26 : decode cX4_passFriday 26 = .ok (.iastore, 1) := by decide +kernel
theorem dX4_passFriday_27 : decode cX4_passFriday 27 = .ok (.aload_n 0, 1) := by decide +kernel
theorem dX4_passFriday_28 : decode cX4_passFriday 28 = .ok (.getfield 37, 3) := by decide +kernel
theorem dX4_passFriday_31 : decode cX4_passFriday 31 = .ok (.iload_n 1, 1) := by decide +kernel
theorem dX4_passFriday_32 : decode cX4_passFriday 32 = .ok (.aload_n 0, 1) := by decide +kernel
theorem dX4_passFriday_33 : decode cX4_passFriday 33 = .ok (.iload_n 1, 1) := by decide +kernel
theorem dX4_passFriday_34 : decode cX4_passFriday 34 = .ok (.aload_n 0, 1) := by decide +kernel
theorem dX4_passFriday_35 : decode cX4_passFriday 35 = .ok (.getfield 31, 3) := by decide +kernel
theorem dX4_passFriday_38 : decode cX4_passFriday 38 = .ok (.iload_n 1, 1) := by decide +kernel
theorem dX4_passFriday_39 : decode cX4_passFriday 39 = .ok (.iaload, 1) := by decide +kernel
theorem dX4_passFriday_40 : decode cX4_passFriday 40 = .ok (.invokevirtual 111, 3) := by decide +kernel
theorem dX4_passFriday_43 : decode cX4_passFriday 43 = .ok (.iastore, 1) := by decide +kernel
theorem dX4_passFriday_44 : decode cX4_passFriday 44 = .ok (.aload_n 0, 1) := by decide +kernel
theorem dX4_passFriday_45 : decode cX4_passFriday 45 = .ok (.getfield 40, 3) := by decide +kernel
theorem dX4_passFriday_48 : decode cX4_passFriday 48 = .ok (.iload_n 1, 1) := by decide +kernel
theorem dX4_passFriday_49 : decode cX4_passFriday 49 = .ok (.aload_n 0, 1) := by decide +kernel
theorem dX4_passFriday_50 : decode cX4_passFriday 50 = .ok (.iload_n 1, 1) := by decide +kernel
theorem dX4_passFriday_51 : decode cX4_passFriday 51 = .ok (.aload_n 0, 1) := by decide +kernel
theorem dX4_passFriday_52 : decode cX4_passFriday 52 = .ok (.getfield 31, 3) := by decide +kernel
theorem dX4_passFriday_55 : decode cX4_passFriday 55 = .ok (.iload_n 1, 1) := by decide +kernel
theorem dX4_passFriday_56 : decode cX4_passFriday 56 = .ok (.iaload, 1) := by decide +kernel
theorem dX4_passFriday_57 : decode cX4_passFriday 57 = .ok (.invokevirtual 114, 3) := by decide +kernel
theorem dX4_passFriday_60 : decode cX4_passFriday 60 = .ok (.iastore, 1) := by decide +kernel
theorem dX4_passFriday_61 : decode cX4_passFriday 61 = .ok (.iinc 1 1, 3) := by decide +kernel
theorem dX4_passFriday_64 : decode cX4_passFriday 64 = .ok (.goto (-62), 3) := by decide +kernel
theorem dX4_passFriday_67 : decode cX4_passFriday 67 = .ok (.iconst 0, 1) := by decide +kernel
theorem dX4_passFriday_68 : decode cX4_passFriday 68 = .ok (.istore_n 1, 1) := by decide +kernel
theorem dX4_passFriday_69 : decode cX4_passFriday 69 = .ok (.iload_n 1, 1) := by decide +kernel
theorem dX4_passFriday_70 : decode cX4_passFriday 70 = .ok (.aload_n 0, 1) := by decide +kernel
theorem dX4_passFriday_71 : decode cX4_passFriday 71 = .ok (.getfield 49, 3) := by decide +kernel
theorem dX4_passFriday_74 : decode cX4_passFriday 74 = .ok (.if_icmp .ge 92, 3) := by decide +kernel
theorem dX4_passFriday_77 : decode cX4_passFriday 77 = .ok (.aload_n 0, 1) := by decide +kernel
theorem dX4_passFriday_78 : decode cX4_passFriday 78 = .ok (.getfield 31, 3) := by decide +kernel
theorem dX4_passFriday_81 : decode cX4_passFriday 81 = .ok (.iload_n 1, 1) := by decide +kernel
theorem dX4_passFriday_82 : decode cX4_passFriday 82 = .ok (.iaload, 1) := by decide +kernel
theorem dX4_passFriday_83 : decode cX4_passFriday 83 = .ok (.istore_n 2, 1) := by decide +kernel
theorem dX4_passFriday_84 : decode cX4_passFriday 84 = .ok (.aload_n 0, 1) := by decide +kernel
theorem dX4_passFriday_85 : decode cX4_passFriday 85 = .ok (.getfield 22, 3) := by decide +kernel
theorem dX4_passFriday_88 : decode cX4_passFriday 88 = .ok (.iload_n 2, 1) := by decide +kernel
theorem dX4_passFriday_89 : decode cX4_passFriday 89 = .ok (.ldc 117, 2) := by decide +kernel
theorem dX4_passFriday_91 : decode cX4_passFriday 91 = .ok (.aload_n 0, 1) := by decide +kernel
theorem dX4_passFriday_92 : decode cX4_passFriday 92 = .ok (.getfield 22, 3) := by decide +kernel
theorem dX4_passFriday_95 : decode cX4_passFriday 95 = .ok (.iload_n 2, 1) := by decide +kernel
theorem dX4_passFriday_96 : decode cX4_passFriday 96 = .ok (.iaload, 1) := by decide +kernel
theorem dX4_passFriday_97 : decode cX4_passFriday 97 = .ok (.aload_n 0, 1) := by decide +kernel
theorem dX4_passFriday_98 : decode cX4_passFriday 98 = .ok (.getfield 34, 3) := by decide +kernel
theorem dX4_passFriday_101 : decode cX4_passFriday 101 = .ok (.iload_n 1, 1) := by decide +kernel
theorem dX4_passFriday_102 : decode cX4_passFriday 102 = .ok (.iaload, 1) := by decide +kernel
theorem dX4_passFriday_103 : decode cX4_passFriday 103 = .ok (.iadd, 1) := by decide +kernel
theorem dX4_passFriday_104 : decode cX4_passFriday 104 = .ok (.invokestatic 118, 3) := by decide +kernel
theorem dX4_passFriday_107 : decode cX4_passFriday 107 = .ok (.iastore, 1) := by decide +kernel
theorem dX4_passFriday_108 : decode cX4_passFriday 108 = .ok (.aload_n 0, 1) := by decide +kernel
theorem dX4_passFriday_109 : decode cX4_passFriday 109 = .ok (.getfield 25, 3) := by decide +kernel
theorem dX4_passFriday_112 : decode cX4_passFriday 112 = .ok (.iload_n 2, 1) := by decide +kernel
theorem dX4_passFriday_113 : decode cX4_passFriday 113 = .ok (.iconst 0, 1) := by decide +kernel
theorem dX4_passFriday_114 : decode cX4_passFriday 114 = .ok (.bipush 99, 2) := by decide +kernel
theorem dX4_passFriday_116 : decode cX4_passFriday 116 = .ok (.aload_n 0, 1) := by decide +kernel
theorem dX4_passFriday_117 : decode cX4_passFriday 117 = .ok (.getfield 25, 3) := by decide +kernel
theorem dX4_passFriday_120 : decode cX4_passFriday 120 = .ok (.iload_n 2, 1) := by decide +kernel
theorem dX4_passFriday_121 : decode cX4_passFriday 121 = .ok (.iaload, 1) := by decide +kernel
theorem dX4_passFriday_122 : decode cX4_passFriday 122 = .ok (.aload_n 0, 1) := by decide +kernel
theorem dX4_passFriday_123 : decode cX4_passFriday 123 = .ok (.getfield 37, 3) := by decide +kernel
theorem dX4_passFriday_126 : decode cX4_passFriday 126 = .ok (.iload_n 1, 1) := by decide +kernel
theorem dX4_passFriday_127 : decode cX4_passFriday 127 = .ok (.iaload, 1) := by decide +kernel
theorem dX4_passFriday_128 : decode cX4_passFriday 128 = .ok (.iadd, 1) := by decide +kernel
theorem dX4_passFriday_129 : decode cX4_passFriday 129 = .ok (.invokestatic 118, 3) := by decide +kernel
theorem dX4_passFriday_132 : decode cX4_passFriday 132 = .ok (.invokestatic 123, 3) := by decide +kernel
theorem dX4_passFriday_135 : decode cX4_passFriday 135 = .ok (.iastore, 1) := by decide +kernel
theorem dX4_passFriday_136 : decode cX4_passFriday 136 = .ok (.aload_n 0, 1) := by decide +kernel
theorem dX4_passFriday_137 : decode cX4_passFriday 137 = .ok (.getfield 28, 3) := by decide +kernel
theorem dX4_passFriday_140 : decode cX4_passFriday 140 = .ok (.iload_n 1, 1) := by decide +kernel
theorem dX4_passFriday_141 : decode cX4_passFriday 141 = .ok (.bipush 99, 2) := by decide +kernel
theorem dX4_passFriday_143 : decode cX4_passFriday 143 = .ok (.aload_n 0, 1) := by decide +kernel
theorem dX4_passFriday_144 : decode cX4_passFriday 144 = .ok (.getfield 28, 3) := by decide +kernel
theorem dX4_passFriday_147 : decode cX4_passFriday 147 = .ok (.iload_n 1, 1) := by decide +kernel
theorem dX4_passFriday_148 : decode cX4_passFriday 148 = .ok (.iaload, 1) := by decide +kernel
theorem dX4_passFriday_149 : decode cX4_passFriday 149 = .ok (.aload_n 0, 1) := by decide +kernel
theorem dX4_passFriday_150 : decode cX4_passFriday 150 = .ok (.getfield 40, 3) := by decide +kernel
theorem dX4_passFriday_153 : decode cX4_passFriday 153 = .ok (.iload_n 1, 1) := by decide +kernel
theorem dX4_passFriday_154 : decode cX4_passFriday 154 = .ok (.iaload, 1) := by decide +kernel
theorem dX4_passFriday_155 : decode cX4_passFriday 155 = .ok (.iadd, 1) := by decide +kernel
theorem dX4_passFriday_156 : decode cX4_passFriday 156 = .ok (.invokestatic 118, 3) := by decide +kernel
theorem dX4_passFriday_159 : decode cX4_passFriday 159 = .ok (.iastore, 1) := by decide +kernel
theorem dX4_passFriday_160 : decode cX4_passFriday 160 = .ok (.iinc 1 1, 3) := by decide +kernel
theorem dX4_passFriday_163 : decode cX4_passFriday 163 = .ok (.goto (-94), 3) := by decide +kernel
theorem dX4_passFriday_166 : decode cX4_passFriday 166 = .ok (.aload_n 0, 1) := by decide +kernel
theorem dX4_passFriday_167 : decode cX4_passFriday 167 = .ok (.dup, 1) := by decide +kernel
theorem dX4_passFriday_168 : decode cX4_passFriday 168 = .ok (.getfield 46, 3) := by decide +kernel
theorem dX4_passFriday_171 : decode cX4_passFriday 171 = .ok (.iconst 1, 1) := by decide +kernel
theorem dX4_passFriday_172 : decode cX4_passFriday 172 = .ok (.iadd, 1) := by decide +kernel
theorem dX4_passFriday_173 : decode cX4_passFriday 173 = .ok (.putfield 46, 3) := by decide +kernel
theorem dX4_passFriday_176 : decode cX4_passFriday 176 = .ok (.return_, 1) := by decide +kernel
theorem dX5_init_0 : decode cX5_init 0 = .ok (.aload_n 0, 1) := by decide +kernel
theorem dX5_init_1 : decode cX5_init 1 = .ok (.invokespecial 3, 3) := by decide +kernel
theorem dX5_init_4 : decode cX5_init 4 = .ok (.aload_n 0, 1) := by decide +kernel
theorem dX5_init_5 : decode cX5_init 5 = .ok (.new 9, 3) := by decide +kernel
theorem dX5_init_8 : decode cX5_init 8 = .ok (.dup, 1) := by decide +kernel
theorem dX5_init_9 : decode cX5_init 9 = .ok (.invokespecial 11, 3) := by decide +kernel
theorem dX5_init_12 : decode cX5_init 12 = .ok (.putfield 12, 3) := by decide +kernel
theorem dX5_init_15 : decode cX5_init 15 = .ok (.return_, 1) := by decide +kernel
theorem dX5_tell_0 : decode cX5_tell 0 = .ok (.aload_n 0, 1) := by decide +kernel
theorem dX5_tell_1 : decode cX5_tell 1 = .ok (.iconst 0, 1) := by decide +kernel
theorem dX5_tell_2 : decode cX5_tell 2 = .ok (.putfield 18, 3) := by decide +kernel
theorem dX5_tell_5 : decode cX5_tell 5 = .ok (.aload_n 0, 1) := by decide +kernel
theorem dX5_tell_6 : decode cX5_tell 6 = .ok (.invokevirtual 22, 3) := by decide +kernel
theorem dX5_tell_9 : decode cX5_tell 9 = .ok (.iconst 1, 1) := by decide +kernel
theorem dX5_tell_10 : decode cX5_tell 10 = .ok (.istore_n 2, 1) := by decide +kernel
theorem dX5_tell_11 : decode cX5_tell 11 = .ok (.iload_n 2, 1) := by decide +kernel
theorem dX5_tell_12 : decode cX5_tell 12 = .ok (.bipush 120, 2) := by decide +kernel
theorem dX5_tell_14 : decode cX5_tell 14 = .ok (.if_icmp .gt 63, 3) := by decide +kernel
theorem dX5_tell_17 : decode cX5_tell 17 = .ok (.aload_n 0, 1) := by decide +kernel
theorem dX5_tell_18 : decode cX5_tell 18 = .ok (.ldc 25, 2) := by decide +kernel
theorem dX5_tell_20 : decode cX5_tell 20 = .ok (.invokevirtual 27, 3) := by decide +kernel
theorem dX5_tell_23 : decode cX5_tell 23 = .ok (.ifCond .eq 11, 3) := by decide +kernel
theorem dX5_tell_26 : decode cX5_tell 26 = .ok (.aload_n 0, 1) := by decide +kernel
theorem dX5_tell_27 : decode cX5_tell 27 = .ok (.aload_n 1, 1) := by decide +kernel
theorem dX5_tell_28 : decode cX5_tell 28 = .ok (.invokevirtual 31, 3) := by decide +kernel
theorem dX5_tell_31 : decode cX5_tell 31 = .ok (.goto 8, 3) := by decide +kernel
theorem dX5_tell_34 : decode cX5_tell 34 = .ok (.aload_n 0, 1) := by decide +kernel
theorem dX5_tell_35 : decode cX5_tell 35 = .ok (.aload_n 1, 1) := by decide +kernel
theorem dX5_tell_36 : decode cX5_tell 36 = .ok (.invokevirtual 35, 3) := by decide +kernel
theorem dX5_tell_39 : decode cX5_tell 39 = .ok (.istore_n 3, 1) := by decide +kernel
theorem dX5_tell_40 : decode cX5_tell 40 = .ok (.iload_n 3, 1) := by decide +kernel
theorem dX5_tell_41 : decode cX5_tell 41 = .ok (.ifCond .ne 6, 3) := by decide +kernel
theorem dX5_tell_44 : decode cX5_tell 44 = .ok (.goto 33, 3) := by decide +kernel
theorem dX5_tell_47 : decode cX5_tell 47 = .ok (.aload_n 0, 1) := by decide +kernel
theorem dX5_tell_48 : decode cX5_tell 48 = .ok (.getfield 38, 3) := by decide +kernel
theorem dX5_tell_51 : decode cX5_tell 51 = .ok (.ifCond .ne 5, 3) := by decide +kernel
theorem dX5_tell_54 : decode cX5_tell 54 = .ok (.iload_n 2, 1) := by decide +kernel
theorem dX5_tell_55 : decode cX5_tell 55 = .ok (.ireturn, 1) := by decide +kernel
theorem dX5_tell_56 : decode cX5_tell 56 = .ok (.aload_n 0, 1) := by decide +kernel
theorem dX5_tell_57 : decode cX5_tell 57 = .ok (.getfield 38, 3) := by decide +kernel
theorem dX5_tell_60 : decode cX5_tell 60 = .ok (.iconst 3, 1) := by decide +kernel
theorem dX5_tell_61 : decode cX5_tell 61 = .ok (.if_icmp .eq 6, 3) := by decide +kernel
theorem dX5_tell_64 : decode cX5_tell 64 = .ok (.goto 13, 3) := by decide +kernel
theorem dX5_tell_67 : decode cX5_tell 67 = .ok (.aload_n 0, 1) := by decide +kernel
theorem dX5_tell_68 : decode cX5_tell 68 = .ok (.invokevirtual 22, 3) := by decide +kernel
theorem dX5_tell_71 : decode cX5_tell 71 = .ok (.iinc 2 1, 3) := by decide +kernel
theorem dX5_tell_74 : decode cX5_tell 74 = .ok (.goto (-63), 3) := by decide +kernel
theorem dX5_tell_77 : decode cX5_tell 77 = .ok (.iconst (-1), 1) := by decide +kernel
theorem dX5_tell_78 : decode cX5_tell 78 = .ok (.aload_n 0, 1) := by decide +kernel
theorem dX5_tell_79 : decode cX5_tell 79 = .ok (.getfield 41, 3) := by decide +kernel
theorem dX5_tell_82 : decode cX5_tell 82 = .ok (.isub, 1) := by decide +kernel
theorem dX5_tell_83 : decode cX5_tell 83 = .ok (.ireturn, 1) := by decide +kernel
theorem dX5_takePerson_0 : decode cX5_takePerson 0 = .ok (.aload_n 0, 1) := by decide +kernel
theorem dX5_takePerson_1 : decode cX5_takePerson 1 = .ok (.invokevirtual 44, 3) := by decide +kernel
theorem dX5_takePerson_4 : decode cX5_takePerson 4 = .ok (.istore_n 2, 1) := by decide +kernel
theorem dX5_takePerson_5 : decode cX5_takePerson 5 = .ok (.iload_n 2, 1) := by decide +kernel
theorem dX5_takePerson_6 : decode cX5_takePerson 6 = .ok (.ifCond .lt 10, 3) := by decide +kernel
theorem dX5_takePerson_9 : decode cX5_takePerson 9 = .ok (.aload_n 1, 1) := by decide +kernel
theorem dX5_takePerson_10 : decode cX5_takePerson 10 = .ok (.invokevirtual 48, 3) := by decide +kernel
theorem dX5_takePerson_13 : decode cX5_takePerson 13 = .ok (.ifCond .eq 5, 3) := by decide +kernel
theorem dX5_takePerson_16 : decode cX5_takePerson 16 = .ok (.iconst 0, 1) := by decide +kernel
theorem dX5_takePerson_17 : decode cX5_takePerson 17 = .ok (.ireturn, 1) := by decide +kernel
theorem dX5_takePerson_18 : decode cX5_takePerson 18 = .ok (.aload_n 1, 1) := by decide +kernel
theorem dX5_takePerson_19 : decode cX5_takePerson 19 = .ok (.iload_n 2, 1) := by decide +kernel
theorem dX5_takePerson_20 : decode cX5_takePerson 20 = .ok (.invokevirtual 54, 3) := by decide +kernel
theorem dX5_takePerson_23 : decode cX5_takePerson 23 = .ok (.istore_n 3, 1) := by decide +kernel
theorem dX5_takePerson_24 : decode cX5_takePerson 24 = .ok (.aload_n 0, 1) := by decide +kernel
theorem dX5_takePerson_25 : decode cX5_takePerson 25 = .ok (.invokevirtual 22, 3) := by decide +kernel
theorem dX5_takePerson_28 : decode cX5_takePerson 28 = .ok (.aload_n 0, 1) := by decide +kernel
theorem dX5_takePerson_29 : decode cX5_takePerson 29 = .ok (.ldc 58, 2) := by decide +kernel
theorem dX5_takePerson_31 : decode cX5_takePerson 31 = .ok (.aload_n 1, 1) := by decide +kernel
theorem dX5_takePerson_32 : decode cX5_takePerson 32 = .ok (.getfield 60, 3) := by decide +kernel
theorem dX5_takePerson_35 : decode cX5_takePerson 35 = .ok (.iload_n 3, 1) := by decide +kernel
theorem dX5_takePerson_36 : decode cX5_takePerson 36 = .ok (.bipush 20, 2) := by decide +kernel
theorem dX5_takePerson_38 : decode cX5_takePerson 38 = .ok (.invokevirtual 64, 3) := by decide +kernel
theorem dX5_takePerson_41 : decode cX5_takePerson 41 = .ok (.ifCond .eq 40, 3) := by decide +kernel
theorem dX5_takePerson_44 : decode cX5_takePerson 44 = .ok (.aload_n 0, 1) := by decide +kernel
theorem dX5_takePerson_45 : decode cX5_takePerson 45 = .ok (.ldc 68, 2) := by decide +kernel
theorem dX5_takePerson_47 : decode cX5_takePerson 47 = .ok (.aload_n 1, 1) := by decide +kernel
theorem dX5_takePerson_48 : decode cX5_takePerson 48 = .ok (.getfield 70, 3) := by decide +kernel
theorem dX5_takePerson_51 : decode cX5_takePerson 51 = .ok (.iload_n 3, 1) := by decide +kernel
theorem dX5_takePerson_52 : decode cX5_takePerson 52 = .ok (.sipush 999, 3) := by decide +kernel
theorem dX5_takePerson_55 : decode cX5_takePerson 55 = .ok (.invokevirtual 64, 3) := by decide +kernel
theorem dX5_takePerson_58 : decode cX5_takePerson 58 = .ok (.ifCond .eq 23, 3) := by decide +kernel
theorem dX5_takePerson_61 : decode cX5_takePerson 61 = .ok (.aload_n 0, 1) := by decide +kernel
theorem dX5_takePerson_62 : decode cX5_takePerson 62 = .ok (.ldc 73, 2) := by decide +kernel
theorem dX5_takePerson_64 : decode cX5_takePerson 64 = .ok (.aload_n 1, 1) := by decide +kernel
theorem dX5_takePerson_65 : decode cX5_takePerson 65 = .ok (.getfield 75, 3) := by decide +kernel
theorem dX5_takePerson_68 : decode cX5_takePerson 68 = .ok (.iload_n 3, 1) := by decide +kernel
theorem dX5_takePerson_69 : decode cX5_takePerson 69 = .ok (.bipush 99, 2) := by decide +kernel
theorem dX5_takePerson_71 : decode cX5_takePerson 71 = .ok (.invokevirtual 64, 3) := by decide +kernel
theorem dX5_takePerson_74 : decode cX5_takePerson 74 = .ok (.ifCond .eq 7, 3) := by decide +kernel
theorem dX5_takePerson_77 : decode cX5_takePerson 77 = .ok (.iconst 1, 1) := by decide +kernel
theorem dX5_takePerson_78 : decode cX5_takePerson 78 = .ok (.goto 4, 3) := by decide +kernel
theorem dX5_takePerson_81 : decode cX5_takePerson 81 = .ok (.iconst 0, 1) := by decide +kernel
theorem dX5_takePerson_82 : decode cX5_takePerson 82 = .ok (.ireturn, 1) := by decide +kernel
theorem dX5_takePart_0 : decode cX5_takePart 0 = .ok (.aload_n 0, 1) := by decide +kernel
theorem dX5_takePart_1 : decode cX5_takePart 1 = .ok (.aload_n 1, 1) := by decide +kernel
theorem dX5_takePart_2 : decode cX5_takePart 2 = .ok (.invokevirtual 27, 3) := by decide +kernel
theorem dX5_takePart_5 : decode cX5_takePart 5 = .ok (.ifCond .ne 5, 3) := by decide +kernel
theorem dX5_takePart_8 : decode cX5_takePart 8 = .ok (.iconst 1, 1) := by decide +kernel
theorem dX5_takePart_9 : decode cX5_takePart 9 = .ok (.ireturn, 1) := by decide +kernel
theorem dX5_takePart_10 : decode cX5_takePart 10 = .ok (.aload_n 0, 1) := by decide +kernel
theorem dX5_takePart_11 : decode cX5_takePart 11 = .ok (.invokevirtual 22, 3) := by decide +kernel
theorem dX5_takePart_14 : decode cX5_takePart 14 = .ok (.aload_n 0, 1) := by decide +kernel
theorem dX5_takePart_15 : decode cX5_takePart 15 = .ok (.getfield 38, 3) := by decide +kernel
theorem dX5_takePart_18 : decode cX5_takePart 18 = .ok (.iconst 2, 1) := by decide +kernel
theorem dX5_takePart_19 : decode cX5_takePart 19 = .ok (.if_icmp .ne 12, 3) := by decide +kernel
theorem dX5_takePart_22 : decode cX5_takePart 22 = .ok (.aload_n 0, 1) := by decide +kernel
theorem dX5_takePart_23 : decode cX5_takePart 23 = .ok (.getfield 78, 3) := by decide +kernel
theorem dX5_takePart_26 : decode cX5_takePart 26 = .ok (.iload 4, 2) := by decide +kernel
theorem dX5_takePart_28 : decode cX5_takePart 28 = .ok (.if_icmp .le 5, 3) := by decide +kernel
theorem dX5_takePart_31 : decode cX5_takePart 31 = .ok (.iconst 0, 1) := by decide +kernel
theorem dX5_takePart_32 : decode cX5_takePart 32 = .ok (.ireturn, 1) := by decide +kernel
theorem dX5_takePart_33 : decode cX5_takePart 33 = .ok (.aload_n 2, 1) := by decide +kernel
theorem dX5_takePart_34 : decode cX5_takePart 34 = .ok (.iload_n 3, 1) := by decide +kernel
theorem dX5_takePart_35 : decode cX5_takePart 35 = .ok (.aload_n 0, 1) := by decide +kernel
theorem dX5_takePart_36 : decode cX5_takePart 36 = .ok (.getfield 78, 3) := by decide +kernel
theorem dX5_takePart_39 : decode cX5_takePart 39 = .ok (.iastore, 1) := by decide +kernel
theorem dX5_takePart_40 : decode cX5_takePart 40 = .ok (.aload_n 0, 1) := by decide +kernel
theorem dX5_takePart_41 : decode cX5_takePart 41 = .ok (.invokevirtual 22, 3) := by decide +kernel
theorem dX5_takePart_44 : decode cX5_takePart 44 = .ok (.iconst 1, 1) := by decide +kernel
theorem dX5_takePart_45 : decode cX5_takePart 45 = .ok (.ireturn, 1) := by decide +kernel
theorem dX5_takeSlip_0 : decode cX5_takeSlip 0 = .ok (.aload_n 0, 1) := by decide +kernel
theorem dX5_takeSlip_1 : decode cX5_takeSlip 1 = .ok (.invokevirtual 22, 3) := by decide +kernel
theorem dX5_takeSlip_4 : decode cX5_takeSlip 4 = .ok (.aload_n 0, 1) := by decide +kernel
theorem dX5_takeSlip_5 : decode cX5_takeSlip 5 = .ok (.getfield 38, 3) := by decide +kernel
theorem dX5_takeSlip_8 : decode cX5_takeSlip 8 = .ok (.iconst 2, 1) := by decide +kernel
theorem dX5_takeSlip_9 : decode cX5_takeSlip 9 = .ok (.if_icmp .ne 14, 3) := by decide +kernel
theorem dX5_takeSlip_12 : decode cX5_takeSlip 12 = .ok (.aload_n 1, 1) := by decide +kernel
theorem dX5_takeSlip_13 : decode cX5_takeSlip 13 = .ok (.aload_n 0, 1) := by decide +kernel
theorem dX5_takeSlip_14 : decode cX5_takeSlip 14 = .ok (.getfield 78, 3) := by decide +kernel
theorem dX5_takeSlip_17 : decode cX5_takeSlip 17 = .ok (.invokevirtual 81, 3) := by decide +kernel
theorem dX5_takeSlip_20 : decode cX5_takeSlip 20 = .ok (.ifCond .ne 5, 3) := by decide +kernel
theorem dX5_takeSlip_23 : decode cX5_takeSlip 23 = .ok (.iconst 0, 1) := by decide +kernel
theorem dX5_takeSlip_24 : decode cX5_takeSlip 24 = .ok (.ireturn, 1) := by decide +kernel
theorem dX5_takeSlip_25 : decode cX5_takeSlip 25 = .ok (.aload_n 0, 1) := by decide +kernel
theorem dX5_takeSlip_26 : decode cX5_takeSlip 26 = .ok (.getfield 78, 3) := by decide +kernel
theorem dX5_takeSlip_29 : decode cX5_takeSlip 29 = .ok (.istore_n 2, 1) := by decide +kernel
theorem dX5_takeSlip_30 : decode cX5_takeSlip 30 = .ok (.aload_n 0, 1) := by decide +kernel
theorem dX5_takeSlip_31 : decode cX5_takeSlip 31 = .ok (.invokevirtual 22, 3) := by decide +kernel
theorem dX5_takeSlip_34 : decode cX5_takeSlip 34 = .ok (.aload_n 0, 1) := by decide +kernel
theorem dX5_takeSlip_35 : decode cX5_takeSlip 35 = .ok (.ldc 85, 2) := by decide +kernel
theorem dX5_takeSlip_37 : decode cX5_takeSlip 37 = .ok (.invokevirtual 27, 3) := by decide +kernel
theorem dX5_takeSlip_40 : decode cX5_takeSlip 40 = .ok (.ifCond .ne 5, 3) := by decide +kernel
theorem dX5_takeSlip_43 : decode cX5_takeSlip 43 = .ok (.iconst 0, 1) := by decide +kernel
theorem dX5_takeSlip_44 : decode cX5_takeSlip 44 = .ok (.ireturn, 1) := by decide +kernel
theorem dX5_takeSlip_45 : decode cX5_takeSlip 45 = .ok (.aload_n 0, 1) := by decide +kernel
theorem dX5_takeSlip_46 : decode cX5_takeSlip 46 = .ok (.invokevirtual 22, 3) := by decide +kernel
theorem dX5_takeSlip_49 : decode cX5_takeSlip 49 = .ok (.aload_n 0, 1) := by decide +kernel
theorem dX5_takeSlip_50 : decode cX5_takeSlip 50 = .ok (.getfield 38, 3) := by decide +kernel
theorem dX5_takeSlip_53 : decode cX5_takeSlip 53 = .ok (.iconst 2, 1) := by decide +kernel
theorem dX5_takeSlip_54 : decode cX5_takeSlip 54 = .ok (.if_icmp .ne 14, 3) := by decide +kernel
theorem dX5_takeSlip_57 : decode cX5_takeSlip 57 = .ok (.aload_n 1, 1) := by decide +kernel
theorem dX5_takeSlip_58 : decode cX5_takeSlip 58 = .ok (.aload_n 0, 1) := by decide +kernel
theorem dX5_takeSlip_59 : decode cX5_takeSlip 59 = .ok (.getfield 78, 3) := by decide +kernel
theorem dX5_takeSlip_62 : decode cX5_takeSlip 62 = .ok (.invokevirtual 81, 3) := by decide +kernel
theorem dX5_takeSlip_65 : decode cX5_takeSlip 65 = .ok (.ifCond .ne 5, 3) := by decide +kernel
theorem dX5_takeSlip_68 : decode cX5_takeSlip 68 = .ok (.iconst 0, 1) := by decide +kernel
theorem dX5_takeSlip_69 : decode cX5_takeSlip 69 = .ok (.ireturn, 1) := by decide +kernel
theorem dX5_takeSlip_70 : decode cX5_takeSlip 70 = .ok (.aload_n 1, 1) := by decide +kernel
theorem dX5_takeSlip_71 : decode cX5_takeSlip 71 = .ok (.iload_n 2, 1) := by decide +kernel
theorem dX5_takeSlip_72 : decode cX5_takeSlip 72 = .ok (.aload_n 1, 1) := by decide +kernel
theorem dX5_takeSlip_73 : decode cX5_takeSlip 73 = .ok (.aload_n 0, 1) := by decide +kernel
theorem dX5_takeSlip_74 : decode cX5_takeSlip 74 = .ok (.getfield 78, 3) := by decide +kernel
theorem dX5_takeSlip_77 : decode cX5_takeSlip 77 = .ok (.invokevirtual 87, 3) := by decide +kernel
theorem dX5_takeSlip_80 : decode cX5_takeSlip 80 = .ok (.invokevirtual 90, 3) := by decide +kernel
theorem dX5_takeSlip_83 : decode cX5_takeSlip 83 = .ok (.aload_n 0, 1) := by decide +kernel
theorem dX5_takeSlip_84 : decode cX5_takeSlip 84 = .ok (.invokevirtual 22, 3) := by decide +kernel
theorem dX5_takeSlip_87 : decode cX5_takeSlip 87 = .ok (.iconst 1, 1) := by decide +kernel
theorem dX5_takeSlip_88 : decode cX5_takeSlip 88 = .ok (.ireturn, 1) := by decide +kernel
theorem dX5_namedKind_0 : decode cX5_namedKind 0 = .ok (.iconst 0, 1) := by decide +kernel
theorem dX5_namedKind_1 : decode cX5_namedKind 1 = .ok (.istore_n 1, 1) := by decide +kernel
theorem dX5_namedKind_2 : decode cX5_namedKind 2 = .ok (.iload_n 1, 1) := by decide +kernel
theorem dX5_namedKind_3 : decode cX5_namedKind 3 = .ok (.bipush 6, 2) := by decide +kernel
theorem dX5_namedKind_5 : decode cX5_namedKind 5 = .ok (.if_icmp .ge 22, 3) := by decide +kernel
theorem dX5_namedKind_8 : decode cX5_namedKind 8 = .ok (.aload_n 0, 1) := by decide +kernel
theorem dX5_namedKind_9 : decode cX5_namedKind 9 = .ok (.iload_n 1, 1) := by decide +kernel
theorem dX5_namedKind_10 : decode cX5_namedKind 10 = .ok (.invokestatic 94, 3) := by decide +kernel
theorem dX5_namedKind_13 : decode cX5_namedKind 13 = .ok (.invokevirtual 27, 3) := by decide +kernel
theorem dX5_namedKind_16 : decode cX5_namedKind 16 = .ok (.ifCond .eq 5, 3) := by decide +kernel
theorem dX5_namedKind_19 : decode cX5_namedKind 19 = .ok (.iload_n 1, 1) := by decide +kernel
theorem dX5_namedKind_20 : decode cX5_namedKind 20 = .ok (.ireturn, 1) := by decide +kernel
theorem dX5_namedKind_21 : decode cX5_namedKind 21 = .ok (.iinc 1 1, 3) := by decide +kernel
theorem dX5_namedKind_24 : decode cX5_namedKind 24 = .ok (.goto (-22), 3) := by decide +kernel
theorem dX5_namedKind_27 : decode cX5_namedKind 27 = .ok (.iconst (-1), 1) := by decide +kernel
theorem dX5_namedKind_28 : decode cX5_namedKind 28 = .ok (.ireturn, 1) := by decide +kernel
theorem dX5_nameOf_0 : decode cX5_nameOf 0 = .ok (.iload_n 0, 1) := by decide +kernel
theorem dX5_nameOf_1 : decode cX5_nameOf 1 = .ok (.tableswitch 50 1 5 #[35, 38, 41, 44, 47], 35) := by decide +kernel
theorem dX5_nameOf_36 : decode cX5_nameOf 36 = .ok (.ldc 98, 2) := by decide +kernel
theorem dX5_nameOf_38 : decode cX5_nameOf 38 = .ok (.areturn, 1) := by decide +kernel
theorem dX5_nameOf_39 : decode cX5_nameOf 39 = .ok (.ldc 100, 2) := by decide +kernel
theorem dX5_nameOf_41 : decode cX5_nameOf 41 = .ok (.areturn, 1) := by decide +kernel
theorem dX5_nameOf_42 : decode cX5_nameOf 42 = .ok (.ldc 102, 2) := by decide +kernel
theorem dX5_nameOf_44 : decode cX5_nameOf 44 = .ok (.areturn, 1) := by decide +kernel
theorem dX5_nameOf_45 : decode cX5_nameOf 45 = .ok (.ldc 104, 2) := by decide +kernel
theorem dX5_nameOf_47 : decode cX5_nameOf 47 = .ok (.areturn, 1) := by decide +kernel
theorem dX5_nameOf_48 : decode cX5_nameOf 48 = .ok (.ldc 106, 2) := by decide +kernel
theorem dX5_nameOf_50 : decode cX5_nameOf 50 = .ok (.areturn, 1) := by decide +kernel
theorem dX5_nameOf_51 : decode cX5_nameOf 51 = .ok (.ldc 108, 2) := by decide +kernel
theorem dX5_nameOf_53 : decode cX5_nameOf 53 = .ok (.areturn, 1) := by decide +kernel
theorem dX5_isWord_0 : decode cX5_isWord 0 = .ok (.aload_n 0, 1) := by decide +kernel
theorem dX5_isWord_1 : decode cX5_isWord 1 = .ok (.getfield 38, 3) := by decide +kernel
theorem dX5_isWord_4 : decode cX5_isWord 4 = .ok (.iconst 1, 1) := by decide +kernel
theorem dX5_isWord_5 : decode cX5_isWord 5 = .ok (.if_icmp .ne 19, 3) := by decide +kernel
theorem dX5_isWord_8 : decode cX5_isWord 8 = .ok (.aload_n 0, 1) := by decide +kernel
theorem dX5_isWord_9 : decode cX5_isWord 9 = .ok (.getfield 18, 3) := by decide +kernel
theorem dX5_isWord_12 : decode cX5_isWord 12 = .ok (.aload_n 0, 1) := by decide +kernel
theorem dX5_isWord_13 : decode cX5_isWord 13 = .ok (.getfield 41, 3) := by decide +kernel
theorem dX5_isWord_16 : decode cX5_isWord 16 = .ok (.isub, 1) := by decide +kernel
theorem dX5_isWord_17 : decode cX5_isWord 17 = .ok (.aload_n 1, 1) := by decide +kernel
theorem dX5_isWord_18 : decode cX5_isWord 18 = .ok (.invokevirtual 110, 3) := by decide +kernel
theorem dX5_isWord_21 : decode cX5_isWord 21 = .ok (.if_icmp .eq 5, 3) := by decide +kernel
theorem dX5_isWord_24 : decode cX5_isWord 24 = .ok (.iconst 0, 1) := by decide +kernel
theorem dX5_isWord_25 : decode cX5_isWord 25 = .ok (.ireturn, 1) := by decide +kernel
theorem dX5_isWord_26 : decode cX5_isWord 26 = .ok (.iconst 0, 1) := by decide +kernel
theorem dX5_isWord_27 : decode cX5_isWord 27 = .ok (.istore_n 2, 1) := by decide +kernel
theorem dX5_isWord_28 : decode cX5_isWord 28 = .ok (.iload_n 2, 1) := by decide +kernel
theorem dX5_isWord_29 : decode cX5_isWord 29 = .ok (.aload_n 1, 1) := by decide +kernel
theorem dX5_isWord_30 : decode cX5_isWord 30 = .ok (.invokevirtual 110, 3) := by decide +kernel
theorem dX5_isWord_33 : decode cX5_isWord 33 = .ok (.if_icmp .ge 32, 3) := by decide +kernel
theorem dX5_isWord_36 : decode cX5_isWord 36 = .ok (.aload_n 0, 1) := by decide +kernel
theorem dX5_isWord_37 : decode cX5_isWord 37 = .ok (.getfield 12, 3) := by decide +kernel
theorem dX5_isWord_40 : decode cX5_isWord 40 = .ok (.aload_n 0, 1) := by decide +kernel
theorem dX5_isWord_41 : decode cX5_isWord 41 = .ok (.getfield 41, 3) := by decide +kernel
theorem dX5_isWord_44 : decode cX5_isWord 44 = .ok (.iload_n 2, 1) := by decide +kernel
theorem dX5_isWord_45 : decode cX5_isWord 45 = .ok (.iadd, 1) := by decide +kernel
theorem dX5_isWord_46 : decode cX5_isWord 46 = .ok (.invokevirtual 115, 3) := by decide +kernel
theorem dX5_isWord_49 : decode cX5_isWord 49 = .ok (.aload_n 1, 1) := by decide +kernel
theorem dX5_isWord_50 : decode cX5_isWord 50 = .ok (.iload_n 2, 1) := by decide +kernel
theorem dX5_isWord_51 : decode cX5_isWord 51 = .ok (.invokevirtual 118, 3) := by decide +kernel
theorem dX5_isWord_54 : decode cX5_isWord 54 = .ok (.if_icmp .eq 5, 3) := by decide +kernel
theorem dX5_isWord_57 : decode cX5_isWord 57 = .ok (.iconst 0, 1) := by decide +kernel
theorem dX5_isWord_58 : decode cX5_isWord 58 = .ok (.ireturn, 1) := by decide +kernel
theorem dX5_isWord_59 : decode cX5_isWord 59 = .ok (.iinc 2 1, 3) := by decide +kernel
theorem dX5_isWord_62 : decode cX5_isWord 62 = .ok (.goto (-34), 3) := by decide +kernel
theorem dX5_isWord_65 : decode cX5_isWord 65 = .ok (.iconst 1, 1) := by decide +kernel
theorem dX5_isWord_66 : decode cX5_isWord 66 = .ok (.ireturn, 1) := by decide +kernel
theorem dX5_step_0 : decode cX5_step 0 = .ok (.aload_n 0, 1) := by decide +kernel
theorem dX5_step_1 : decode cX5_step 1 = .ok (.aload_n 0, 1) := by decide +kernel
theorem dX5_step_2 : decode cX5_step 2 = .ok (.getfield 18, 3) := by decide +kernel
theorem dX5_step_5 : decode cX5_step 5 = .ok (.putfield 41, 3) := by decide +kernel
theorem dX5_step_8 : decode cX5_step 8 = .ok (.aload_n 0, 1) := by decide +kernel
theorem dX5_step_9 : decode cX5_step 9 = .ok (.getfield 41, 3) := by decide +kernel
theorem dX5_step_12 : decode cX5_step 12 = .ok (.aload_n 0, 1) := by decide +kernel
theorem dX5_step_13 : decode cX5_step 13 = .ok (.getfield 12, 3) := by decide +kernel
theorem dX5_step_16 : decode cX5_step 16 = .ok (.getfield 122, 3) := by decide +kernel
theorem dX5_step_19 : decode cX5_step 19 = .ok (.if_icmp .ge 32, 3) := by decide +kernel
theorem dX5_step_22 : decode cX5_step 22 = .ok (.aload_n 0, 1) := by decide +kernel
theorem dX5_step_23 : decode cX5_step 23 = .ok (.getfield 12, 3) := by decide +kernel
theorem dX5_step_26 : decode cX5_step 26 = .ok (.aload_n 0, 1) := by decide +kernel
theorem dX5_step_27 : decode cX5_step 27 = .ok (.getfield 41, 3) := by decide +kernel
theorem dX5_step_30 : decode cX5_step 30 = .ok (.invokevirtual 115, 3) := by decide +kernel
theorem dX5_step_33 : decode cX5_step 33 = .ok (.bipush 32, 2) := by decide +kernel
theorem dX5_step_35 : decode cX5_step 35 = .ok (.if_icmp .ne 16, 3) := by decide +kernel
theorem dX5_step_38 : decode cX5_step 38 = .ok (.aload_n 0, 1) := by decide +kernel
theorem dX5_step_39 : decode cX5_step 39 = .ok (.dup, 1) := by decide +kernel
theorem dX5_step_40 : decode cX5_step 40 = .ok (.getfield 41, 3) := by decide +kernel
theorem dX5_step_43 : decode cX5_step 43 = .ok (.iconst 1, 1) := by decide +kernel
theorem dX5_step_44 : decode cX5_step 44 = .ok (.iadd, 1) := by decide +kernel
theorem dX5_step_45 : decode cX5_step 45 = .ok (.putfield 41, 3) := by decide +kernel
theorem dX5_step_48 : decode cX5_step 48 = .ok (.goto (-40), 3) := by decide +kernel
theorem dX5_step_51 : decode cX5_step 51 = .ok (.aload_n 0, 1) := by decide +kernel
theorem dX5_step_52 : decode cX5_step 52 = .ok (.aload_n 0, 1) := by decide +kernel
theorem dX5_step_53 : decode cX5_step 53 = .ok (.getfield 41, 3) := by decide +kernel
theorem dX5_step_56 : decode cX5_step 56 = .ok (.putfield 18, 3) := by decide +kernel
theorem dX5_step_59 : decode cX5_step 59 = .ok (.aload_n 0, 1) := by decide +kernel
theorem dX5_step_60 : decode cX5_step 60 = .ok (.getfield 12, 3) := by decide +kernel
theorem dX5_step_63 : decode cX5_step 63 = .ok (.aload_n 0, 1) := by decide +kernel
theorem dX5_step_64 : decode cX5_step 64 = .ok (.getfield 41, 3) := by decide +kernel
theorem dX5_step_67 : decode cX5_step 67 = .ok (.invokevirtual 115, 3) := by decide +kernel
theorem dX5_step_70 : decode cX5_step 70 = .ok (.istore_n 1, 1) := by decide +kernel
theorem dX5_step_71 : decode cX5_step 71 = .ok (.iload_n 1, 1) := by decide +kernel
theorem dX5_step_72 : decode cX5_step 72 = .ok (.ifCond .ge 11, 3) := by decide +kernel
theorem dX5_step_75 : decode cX5_step 75 = .ok (.aload_n 0, 1) := by decide +kernel
theorem dX5_step_76 : decode cX5_step 76 = .ok (.iconst 0, 1) := by decide +kernel
theorem dX5_step_77 : decode cX5_step 77 = .ok (.putfield 38, 3) := by decide +kernel
theorem dX5_step_80 : decode cX5_step 80 = .ok (.goto 66, 3) := by decide +kernel
theorem dX5_step_83 : decode cX5_step 83 = .ok (.iload_n 1, 1) := by decide +kernel
theorem dX5_step_84 : decode cX5_step 84 = .ok (.invokestatic 125, 3) := by decide +kernel
theorem dX5_step_87 : decode cX5_step 87 = .ok (.ifCond .eq 15, 3) := by decide +kernel
theorem dX5_step_90 : decode cX5_step 90 = .ok (.aload_n 0, 1) := by decide +kernel
theorem dX5_step_91 : decode cX5_step 91 = .ok (.iconst 1, 1) := by decide +kernel
theorem dX5_step_92 : decode cX5_step 92 = .ok (.putfield 38, 3) := by decide +kernel
theorem dX5_step_95 : decode cX5_step 95 = .ok (.aload_n 0, 1) := by decide +kernel
theorem dX5_step_96 : decode cX5_step 96 = .ok (.invokevirtual 128, 3) := by decide +kernel
theorem dX5_step_99 : decode cX5_step 99 = .ok (.goto 47, 3) := by decide +kernel
theorem dX5_step_102 : decode cX5_step 102 = .ok (.iload_n 1, 1) := by decide +kernel
theorem dX5_step_103 : decode cX5_step 103 = .ok (.invokestatic 131, 3) := by decide +kernel
theorem dX5_step_106 : decode cX5_step 106 = .ok (.ifCond .eq 15, 3) := by decide +kernel
theorem dX5_step_109 : decode cX5_step 109 = .ok (.aload_n 0, 1) := by decide +kernel
theorem dX5_step_110 : decode cX5_step 110 = .ok (.iconst 2, 1) := by decide +kernel
theorem dX5_step_111 : decode cX5_step 111 = .ok (.putfield 38, 3) := by decide +kernel
theorem dX5_step_114 : decode cX5_step 114 = .ok (.aload_n 0, 1) := by decide +kernel
theorem dX5_step_115 : decode cX5_step 115 = .ok (.invokevirtual 134, 3) := by decide +kernel
theorem dX5_step_118 : decode cX5_step 118 = .ok (.goto 28, 3) := by decide +kernel
theorem dX5_step_121 : decode cX5_step 121 = .ok (.aload_n 0, 1) := by decide +kernel
theorem dX5_step_122 : decode cX5_step 122 = .ok (.iload_n 1, 1) := by decide +kernel
theorem dX5_step_123 : decode cX5_step 123 = .ok (.bipush 59, 2) := by decide +kernel
theorem dX5_step_125 : decode cX5_step 125 = .ok (.if_icmp .ne 7, 3) := by decide +kernel
theorem dX5_step_128 : decode cX5_step 128 = .ok (.iconst 3, 1) := by decide +kernel
theorem dX5_step_129 : decode cX5_step 129 = .ok (.goto 4, 3) := by decide +kernel
theorem dX5_step_132 : decode cX5_step 132 = .ok (.iconst 4, 1) := by decide +kernel
theorem dX5_step_133 : decode cX5_step 133 = .ok (.putfield 38, 3) := by decide +kernel
theorem dX5_step_136 : decode cX5_step 136 = .ok (.aload_n 0, 1) := by decide +kernel
theorem dX5_step_137 : decode cX5_step 137 = .ok (.dup, 1) := by decide +kernel
theorem dX5_step_138 : decode cX5_step 138 = .ok (.getfield 18, 3) := by decide +kernel
theorem dX5_step_141 : decode cX5_step 141 = .ok (.iconst 1, 1) := by decide +kernel
theorem dX5_step_142 : decode cX5_step 142 = .ok (.iadd, 1) := by decide +kernel
theorem dX5_step_143 : decode cX5_step 143 = .ok (.putfield 18, 3) := by decide +kernel
theorem dX5_step_146 : decode cX5_step 146 = .ok (.return_, 1) := by decide +kernel
theorem dX5_passLetters_0 : decode cX5_passLetters 0 = .ok (.aload_n 0, 1) := by decide +kernel
theorem dX5_passLetters_1 : decode cX5_passLetters 1 = .ok (.getfield 18, 3) := by decide +kernel
theorem dX5_passLetters_4 : decode cX5_passLetters 4 = .ok (.aload_n 0, 1) := by decide +kernel
theorem dX5_passLetters_5 : decode cX5_passLetters 5 = .ok (.getfield 12, 3) := by decide +kernel
theorem dX5_passLetters_8 : decode cX5_passLetters 8 = .ok (.getfield 122, 3) := by decide +kernel
theorem dX5_passLetters_11 : decode cX5_passLetters 11 = .ok (.if_icmp .ge 33, 3) := by decide +kernel
theorem dX5_passLetters_14 : decode cX5_passLetters 14 = .ok (.aload_n 0, 1) := by decide +kernel
theorem dX5_passLetters_15 : decode cX5_passLetters 15 = .ok (.getfield 12, 3) := by decide +kernel
theorem dX5_passLetters_18 : decode cX5_passLetters 18 = .ok (.aload_n 0, 1) := by decide +kernel
theorem dX5_passLetters_19 : decode cX5_passLetters 19 = .ok (.getfield 18, 3) := by decide +kernel
theorem dX5_passLetters_22 : decode cX5_passLetters 22 = .ok (.invokevirtual 115, 3) := by decide +kernel
theorem dX5_passLetters_25 : decode cX5_passLetters 25 = .ok (.invokestatic 125, 3) := by decide +kernel
theorem dX5_passLetters_28 : decode cX5_passLetters 28 = .ok (.ifCond .eq 16, 3) := by decide +kernel
theorem dX5_passLetters_31 : decode cX5_passLetters 31 = .ok (.aload_n 0, 1) := by decide +kernel
theorem dX5_passLetters_32 : decode cX5_passLetters 32 = .ok (.dup, 1) := by decide +kernel
theorem dX5_passLetters_33 : decode cX5_passLetters 33 = .ok (.getfield 18, 3) := by decide +kernel
theorem dX5_passLetters_36 : decode cX5_passLetters 36 = .ok (.iconst 1, 1) := by decide +kernel
theorem dX5_passLetters_37 : decode cX5_passLetters 37 = .ok (.iadd, 1) := by decide +kernel
theorem dX5_passLetters_38 : decode cX5_passLetters 38 = .ok (.putfield 18, 3) := by decide +kernel
theorem dX5_passLetters_41 : decode cX5_passLetters 41 = .ok (.goto (-41), 3) := by decide +kernel
theorem dX5_passLetters_44 : decode cX5_passLetters 44 = .ok (.return_, 1) := by decide +kernel
theorem dX5_passDigits_0 : decode cX5_passDigits 0 = .ok (.aload_n 0, 1) := by decide +kernel
theorem dX5_passDigits_1 : decode cX5_passDigits 1 = .ok (.iconst 0, 1) := by decide +kernel
theorem dX5_passDigits_2 : decode cX5_passDigits 2 = .ok (.putfield 78, 3) := by decide +kernel
theorem dX5_passDigits_5 : decode cX5_passDigits 5 = .ok (.aload_n 0, 1) := by decide +kernel
theorem dX5_passDigits_6 : decode cX5_passDigits 6 = .ok (.getfield 18, 3) := by decide +kernel
theorem dX5_passDigits_9 : decode cX5_passDigits 9 = .ok (.aload_n 0, 1) := by decide +kernel
theorem dX5_passDigits_10 : decode cX5_passDigits 10 = .ok (.getfield 12, 3) := by decide +kernel
theorem dX5_passDigits_13 : decode cX5_passDigits 13 = .ok (.getfield 122, 3) := by decide +kernel
theorem dX5_passDigits_16 : decode cX5_passDigits 16 = .ok (.if_icmp .ge 65, 3) := by decide +kernel
theorem dX5_passDigits_19 : decode cX5_passDigits 19 = .ok (.aload_n 0, 1) := by decide +kernel
theorem dX5_passDigits_20 : decode cX5_passDigits 20 = .ok (.getfield 12, 3) := by decide +kernel
theorem dX5_passDigits_23 : decode cX5_passDigits 23 = .ok (.aload_n 0, 1) := by decide +kernel
theorem dX5_passDigits_24 : decode cX5_passDigits 24 = .ok (.getfield 18, 3) := by decide +kernel
theorem dX5_passDigits_27 : decode cX5_passDigits 27 = .ok (.invokevirtual 115, 3) := by decide +kernel
theorem dX5_passDigits_30 : decode cX5_passDigits 30 = .ok (.invokestatic 131, 3) := by decide +kernel
theorem dX5_passDigits_33 : decode cX5_passDigits 33 = .ok (.ifCond .eq 48, 3) := by decide +kernel
theorem dX5_passDigits_36 : decode cX5_passDigits 36 = .ok (.aload_n 0, 1) := by decide +kernel
theorem dX5_passDigits_37 : decode cX5_passDigits 37 = .ok (.sipush 1000, 3) := by decide +kernel
theorem dX5_passDigits_40 : decode cX5_passDigits 40 = .ok (.bipush 10, 2) := by decide +kernel
theorem dX5_passDigits_42 : decode cX5_passDigits 42 = .ok (.aload_n 0, 1) := by decide +kernel
theorem dX5_passDigits_43 : decode cX5_passDigits 43 = .ok (.getfield 78, 3) := by decide +kernel
theorem dX5_passDigits_46 : decode cX5_passDigits 46 = .ok (.imul, 1) := by decide +kernel
theorem dX5_passDigits_47 : decode cX5_passDigits 47 = .ok (.aload_n 0, 1) := by decide +kernel
theorem dX5_passDigits_48 : decode cX5_passDigits 48 = .ok (.getfield 12, 3) := by decide +kernel
theorem dX5_passDigits_51 : decode cX5_passDigits 51 = .ok (.aload_n 0, 1) := by decide +kernel
theorem dX5_passDigits_52 : decode cX5_passDigits 52 = .ok (.getfield 18, 3) := by decide +kernel
theorem dX5_passDigits_55 : decode cX5_passDigits 55 = .ok (.invokevirtual 115, 3) := by decide +kernel
theorem dX5_passDigits_58 : decode cX5_passDigits 58 = .ok (.iadd, 1) := by decide +kernel
theorem dX5_passDigits_59 : decode cX5_passDigits 59 = .ok (.bipush 48, 2) := by decide +kernel
theorem dX5_passDigits_61 : decode cX5_passDigits 61 = .ok (.isub, 1) := by decide +kernel
theorem dX5_passDigits_62 : decode cX5_passDigits 62 = .ok (.invokestatic 137, 3) := by decide +kernel
theorem dX5_passDigits_65 : decode cX5_passDigits 65 = .ok (.putfield 78, 3) := by decide +kernel
theorem dX5_passDigits_68 : decode cX5_passDigits 68 = .ok (.aload_n 0, 1) := by decide +kernel
theorem dX5_passDigits_69 : decode cX5_passDigits 69 = .ok (.dup, 1) := by decide +kernel
theorem dX5_passDigits_70 : decode cX5_passDigits 70 = .ok (.getfield 18, 3) := by decide +kernel
theorem dX5_passDigits_73 : decode cX5_passDigits 73 = .ok (.iconst 1, 1) := by decide +kernel
theorem dX5_passDigits_74 : decode cX5_passDigits 74 = .ok (.iadd, 1) := by decide +kernel
theorem dX5_passDigits_75 : decode cX5_passDigits 75 = .ok (.putfield 18, 3) := by decide +kernel
theorem dX5_passDigits_78 : decode cX5_passDigits 78 = .ok (.goto (-73), 3) := by decide +kernel
theorem dX5_passDigits_81 : decode cX5_passDigits 81 = .ok (.return_, 1) := by decide +kernel
theorem dX5_isLetter_0 : decode cX5_isLetter 0 = .ok (.iload_n 0, 1) := by decide +kernel
theorem dX5_isLetter_1 : decode cX5_isLetter 1 = .ok (.bipush 97, 2) := by decide +kernel
theorem dX5_isLetter_3 : decode cX5_isLetter 3 = .ok (.if_icmp .lt 13, 3) := by decide +kernel
theorem dX5_isLetter_6 : decode cX5_isLetter 6 = .ok (.iload_n 0, 1) := by decide +kernel
theorem dX5_isLetter_7 : decode cX5_isLetter 7 = .ok (.bipush 122, 2) := by decide +kernel
theorem dX5_isLetter_9 : decode cX5_isLetter 9 = .ok (.if_icmp .gt 7, 3) := by decide +kernel
theorem dX5_isLetter_12 : decode cX5_isLetter 12 = .ok (.iconst 1, 1) := by decide +kernel
theorem dX5_isLetter_13 : decode cX5_isLetter 13 = .ok (.goto 4, 3) := by decide +kernel
theorem dX5_isLetter_16 : decode cX5_isLetter 16 = .ok (.iconst 0, 1) := by decide +kernel
theorem dX5_isLetter_17 : decode cX5_isLetter 17 = .ok (.ireturn, 1) := by decide +kernel
theorem dX5_isDigit_0 : decode cX5_isDigit 0 = .ok (.iload_n 0, 1) := by decide +kernel
theorem dX5_isDigit_1 : decode cX5_isDigit 1 = .ok (.bipush 48, 2) := by decide +kernel
theorem dX5_isDigit_3 : decode cX5_isDigit 3 = .ok (.if_icmp .lt 13, 3) := by decide +kernel
theorem dX5_isDigit_6 : decode cX5_isDigit 6 = .ok (.iload_n 0, 1) := by decide +kernel
theorem dX5_isDigit_7 : decode cX5_isDigit 7 = .ok (.bipush 57, 2) := by decide +kernel
theorem dX5_isDigit_9 : decode cX5_isDigit 9 = .ok (.if_icmp .gt 7, 3) := by decide +kernel
theorem dX5_isDigit_12 : decode cX5_isDigit 12 = .ok (.iconst 1, 1) := by decide +kernel
theorem dX5_isDigit_13 : decode cX5_isDigit 13 = .ok (.goto 4, 3) := by decide +kernel
theorem dX5_isDigit_16 : decode cX5_isDigit 16 = .ok (.iconst 0, 1) := by decide +kernel
theorem dX5_isDigit_17 : decode cX5_isDigit 17 = .ok (.ireturn, 1) := by decide +kernel
theorem dX6_isUnder_0 : decode cX6_isUnder 0 = .ok (.iload_n 0, 1) := by decide +kernel
theorem dX6_isUnder_1 : decode cX6_isUnder 1 = .ok (.istore_n 2, 1) := by decide +kernel
theorem dX6_isUnder_2 : decode cX6_isUnder 2 = .ok (.iconst 0, 1) := by decide +kernel
theorem dX6_isUnder_3 : decode cX6_isUnder 3 = .ok (.istore_n 3, 1) := by decide +kernel
theorem dX6_isUnder_4 : decode cX6_isUnder 4 = .ok (.iload_n 3, 1) := by decide +kernel
theorem dX6_isUnder_5 : decode cX6_isUnder 5 = .ok (.bipush 6, 2) := by decide +kernel
theorem dX6_isUnder_7 : decode cX6_isUnder 7 = .ok (.if_icmp .ge 26, 3) := by decide +kernel
theorem dX6_isUnder_10 : decode cX6_isUnder 10 = .ok (.iload_n 2, 1) := by decide +kernel
theorem dX6_isUnder_11 : decode cX6_isUnder 11 = .ok (.ifCond .lt 22, 3) := by decide +kernel
theorem dX6_isUnder_14 : decode cX6_isUnder 14 = .ok (.iload_n 2, 1) := by decide +kernel
theorem dX6_isUnder_15 : decode cX6_isUnder 15 = .ok (.iload_n 1, 1) := by decide +kernel
theorem dX6_isUnder_16 : decode cX6_isUnder 16 = .ok (.if_icmp .ne 5, 3) := by decide +kernel
theorem dX6_isUnder_19 : decode cX6_isUnder 19 = .ok (.iconst 1, 1) := by decide +kernel
theorem dX6_isUnder_20 : decode cX6_isUnder 20 = .ok (.ireturn, 1) := by decide +kernel
theorem dX6_isUnder_21 : decode cX6_isUnder 21 = .ok (.getstatic 9, 3) := by decide +kernel
theorem dX6_isUnder_24 : decode cX6_isUnder 24 = .ok (.iload_n 2, 1) := by decide +kernel
theorem dX6_isUnder_25 : decode cX6_isUnder 25 = .ok (.iaload, 1) := by decide +kernel
theorem dX6_isUnder_26 : decode cX6_isUnder 26 = .ok (.istore_n 2, 1) := by decide +kernel
theorem dX6_isUnder_27 : decode cX6_isUnder 27 = .ok (.iinc 3 1, 3) := by decide +kernel
theorem dX6_isUnder_30 : decode cX6_isUnder 30 = .ok (.goto (-26), 3) := by decide +kernel
theorem dX6_isUnder_33 : decode cX6_isUnder 33 = .ok (.iconst 0, 1) := by decide +kernel
theorem dX6_isUnder_34 : decode cX6_isUnder 34 = .ok (.ireturn, 1) := by decide +kernel
theorem dX6_earned_0 : decode cX6_earned 0 = .ok (.iload_n 1, 1) := by decide +kernel
theorem dX6_earned_1 : decode cX6_earned 1 = .ok (.iload_n 2, 1) := by decide +kernel
theorem dX6_earned_2 : decode cX6_earned 2 = .ok (.iadd, 1) := by decide +kernel
theorem dX6_earned_3 : decode cX6_earned 3 = .ok (.iconst 2, 1) := by decide +kernel
theorem dX6_earned_4 : decode cX6_earned 4 = .ok (.idiv, 1) := by decide +kernel
theorem dX6_earned_5 : decode cX6_earned 5 = .ok (.istore 5, 2) := by decide +kernel
theorem dX6_earned_7 : decode cX6_earned 7 = .ok (.iload 5, 2) := by decide +kernel
theorem dX6_earned_9 : decode cX6_earned 9 = .ok (.iconst 2, 1) := by decide +kernel
theorem dX6_earned_10 : decode cX6_earned 10 = .ok (.iadd, 1) := by decide +kernel
theorem dX6_earned_11 : decode cX6_earned 11 = .ok (.istore 6, 2) := by decide +kernel
theorem dX6_earned_13 : decode cX6_earned 13 = .ok (.iload_n 3, 1) := by decide +kernel
theorem dX6_earned_14 : decode cX6_earned 14 = .ok (.bipush 50, 2) := by decide +kernel
theorem dX6_earned_16 : decode cX6_earned 16 = .ok (.if_icmp .ge 10, 3) := by decide +kernel
theorem dX6_earned_19 : decode cX6_earned 19 = .ok (.iload 5, 2) := by decide +kernel
theorem dX6_earned_21 : decode cX6_earned 21 = .ok (.iconst 4, 1) := by decide +kernel
theorem dX6_earned_22 : decode cX6_earned 22 = .ok (.iadd, 1) := by decide +kernel
theorem dX6_earned_23 : decode cX6_earned 23 = .ok (.goto 5, 3) := by decide +kernel
theorem dX6_earned_26 : decode cX6_earned 26 = .ok (.iload 5, 2) := by decide +kernel
theorem dX6_earned_28 : decode cX6_earned 28 = .ok (.istore 7, 2) := by decide +kernel
theorem dX6_earned_30 : decode cX6_earned 30 = .ok (.iload_n 0, 1) := by decide +kernel
theorem dX6_earned_31 : decode cX6_earned 31 = .ok (.tableswitch 58 1 5 #[33, 36, 39, 41, 53], 33) := by decide +kernel
theorem dX6_earned_64 : decode cX6_earned 64 = .ok (.iload 6, 2) := by decide +kernel
theorem dX6_earned_66 : decode cX6_earned 66 = .ok (.ireturn, 1) := by decide +kernel
theorem dX6_earned_67 : decode cX6_earned 67 = .ok (.iload 7, 2) := by decide +kernel
theorem dX6_earned_69 : decode cX6_earned 69 = .ok (.ireturn, 1) := by decide +kernel
theorem dX6_earned_70 : decode cX6_earned 70 = .ok (.iconst 1, 1) := by decide +kernel
theorem dX6_earned_71 : decode cX6_earned 71 = .ok (.ireturn, 1) := by decide +kernel
theorem dX6_earned_72 : decode cX6_earned 72 = .ok (.iconst 0, 1) := by decide +kernel
theorem dX6_earned_73 : decode cX6_earned 73 = .ok (.iload 6, 2) := by decide +kernel
theorem dX6_earned_75 : decode cX6_earned 75 = .ok (.iload 4, 2) := by decide +kernel
theorem dX6_earned_77 : decode cX6_earned 77 = .ok (.iconst 4, 1) := by decide +kernel
theorem dX6_earned_78 : decode cX6_earned 78 = .ok (.idiv, 1) := by decide +kernel
theorem dX6_earned_79 : decode cX6_earned 79 = .ok (.isub, 1) := by decide +kernel
theorem dX6_earned_80 : decode cX6_earned 80 = .ok (.invokestatic 15, 3) := by decide +kernel
theorem dX6_earned_83 : decode cX6_earned 83 = .ok (.ireturn, 1) := by decide +kernel
theorem dX6_earned_84 : decode cX6_earned 84 = .ok (.iconst 2, 1) := by decide +kernel
theorem dX6_earned_85 : decode cX6_earned 85 = .ok (.iload 7, 2) := by decide +kernel
theorem dX6_earned_87 : decode cX6_earned 87 = .ok (.imul, 1) := by decide +kernel
theorem dX6_earned_88 : decode cX6_earned 88 = .ok (.ireturn, 1) := by decide +kernel
theorem dX6_earned_89 : decode cX6_earned 89 = .ok (.iload 5, 2) := by decide +kernel
theorem dX6_earned_91 : decode cX6_earned 91 = .ok (.ireturn, 1) := by decide +kernel
theorem dX6_said_0 : decode cX6_said 0 = .ok (.iload_n 1, 1) := by decide +kernel
theorem dX6_said_1 : decode cX6_said 1 = .ok (.iload_n 2, 1) := by decide +kernel
theorem dX6_said_2 : decode cX6_said 2 = .ok (.if_icmp .lt 7, 3) := by decide +kernel
theorem dX6_said_5 : decode cX6_said 5 = .ok (.iconst 1, 1) := by decide +kernel
theorem dX6_said_6 : decode cX6_said 6 = .ok (.goto 4, 3) := by decide +kernel
theorem dX6_said_9 : decode cX6_said 9 = .ok (.iconst (-1), 1) := by decide +kernel
theorem dX6_said_10 : decode cX6_said 10 = .ok (.istore_n 3, 1) := by decide +kernel
theorem dX6_said_11 : decode cX6_said 11 = .ok (.iload_n 0, 1) := by decide +kernel
theorem dX6_said_12 : decode cX6_said 12 = .ok (.tableswitch 43 2 5 #[32, 34, 36, 40], 32) := by decide +kernel
theorem dX6_said_44 : decode cX6_said 44 = .ok (.iconst 3, 1) := by decide +kernel
theorem dX6_said_45 : decode cX6_said 45 = .ok (.ireturn, 1) := by decide +kernel
theorem dX6_said_46 : decode cX6_said 46 = .ok (.iconst 0, 1) := by decide +kernel
theorem dX6_said_47 : decode cX6_said 47 = .ok (.ireturn, 1) := by decide +kernel
theorem dX6_said_48 : decode cX6_said 48 = .ok (.iload_n 3, 1) := by decide +kernel
theorem dX6_said_49 : decode cX6_said 49 = .ok (.iconst 1, 1) := by decide +kernel
theorem dX6_said_50 : decode cX6_said 50 = .ok (.iadd, 1) := by decide +kernel
theorem dX6_said_51 : decode cX6_said 51 = .ok (.ireturn, 1) := by decide +kernel
theorem dX6_said_52 : decode cX6_said 52 = .ok (.bipush (-2), 2) := by decide +kernel
theorem dX6_said_54 : decode cX6_said 54 = .ok (.ireturn, 1) := by decide +kernel
theorem dX6_said_55 : decode cX6_said 55 = .ok (.iload_n 3, 1) := by decide +kernel
theorem dX6_said_56 : decode cX6_said 56 = .ok (.ireturn, 1) := by decide +kernel
theorem dX6_heard_0 : decode cX6_heard 0 = .ok (.iload_n 1, 1) := by decide +kernel
theorem dX6_heard_1 : decode cX6_heard 1 = .ok (.bipush 20, 2) := by decide +kernel
theorem dX6_heard_3 : decode cX6_heard 3 = .ok (.if_icmp .ge 7, 3) := by decide +kernel
theorem dX6_heard_6 : decode cX6_heard 6 = .ok (.iconst 2, 1) := by decide +kernel
theorem dX6_heard_7 : decode cX6_heard 7 = .ok (.goto 4, 3) := by decide +kernel
theorem dX6_heard_10 : decode cX6_heard 10 = .ok (.iconst 0, 1) := by decide +kernel
theorem dX6_heard_11 : decode cX6_heard 11 = .ok (.istore_n 2, 1) := by decide +kernel
theorem dX6_heard_12 : decode cX6_heard 12 = .ok (.iload_n 0, 1) := by decide +kernel
theorem dX6_heard_13 : decode cX6_heard 13 = .ok (.tableswitch 41 2 5 #[31, 35, 37, 31], 31) := by decide +kernel
theorem dX6_heard_44 : decode cX6_heard 44 = .ok (.iconst 2, 1) := by decide +kernel
theorem dX6_heard_45 : decode cX6_heard 45 = .ok (.iload_n 2, 1) := by decide +kernel
theorem dX6_heard_46 : decode cX6_heard 46 = .ok (.imul, 1) := by decide +kernel
theorem dX6_heard_47 : decode cX6_heard 47 = .ok (.ireturn, 1) := by decide +kernel
theorem dX6_heard_48 : decode cX6_heard 48 = .ok (.iconst 0, 1) := by decide +kernel
theorem dX6_heard_49 : decode cX6_heard 49 = .ok (.ireturn, 1) := by decide +kernel
theorem dX6_heard_50 : decode cX6_heard 50 = .ok (.iload_n 2, 1) := by decide +kernel
theorem dX6_heard_51 : decode cX6_heard 51 = .ok (.iconst 1, 1) := by decide +kernel
theorem dX6_heard_52 : decode cX6_heard 52 = .ok (.iadd, 1) := by decide +kernel
theorem dX6_heard_53 : decode cX6_heard 53 = .ok (.ireturn, 1) := by decide +kernel
theorem dX6_heard_54 : decode cX6_heard 54 = .ok (.iload_n 2, 1) := by decide +kernel
theorem dX6_heard_55 : decode cX6_heard 55 = .ok (.ireturn, 1) := by decide +kernel
theorem dJ6_bitCount_0f7a4_0 : decode cJ6_bitCount_0f7a4 0 = .ok (.iload_n 0, 1) := by decide +kernel
theorem dJ6_bitCount_0f7a4_1 : decode cJ6_bitCount_0f7a4 1 = .ok (.iload_n 0, 1) := by decide +kernel
theorem dJ6_bitCount_0f7a4_2 : decode cJ6_bitCount_0f7a4 2 = .ok (.iconst 1, 1) := by decide +kernel
theorem dJ6_bitCount_0f7a4_3 : decode cJ6_bitCount_0f7a4 3 = .ok (.iushr, 1) := by decide +kernel
theorem dJ6_bitCount_0f7a4_4 : decode cJ6_bitCount_0f7a4 4 = .ok (.ldc_w 265, 3) := by decide +kernel
theorem dJ6_bitCount_0f7a4_7 : decode cJ6_bitCount_0f7a4 7 = .ok (.iand, 1) := by decide +kernel
theorem dJ6_bitCount_0f7a4_8 : decode cJ6_bitCount_0f7a4 8 = .ok (.isub, 1) := by decide +kernel
theorem dJ6_bitCount_0f7a4_9 : decode cJ6_bitCount_0f7a4 9 = .ok (.istore_n 0, 1) := by decide +kernel
theorem dJ6_bitCount_0f7a4_10 : decode cJ6_bitCount_0f7a4 10 = .ok (.iload_n 0, 1) := by decide +kernel
theorem dJ6_bitCount_0f7a4_11 : decode cJ6_bitCount_0f7a4 11 = .ok (.ldc_w 266, 3) := by decide +kernel
theorem dJ6_bitCount_0f7a4_14 : decode cJ6_bitCount_0f7a4 14 = .ok (.iand, 1) := by decide +kernel
theorem dJ6_bitCount_0f7a4_15 : decode cJ6_bitCount_0f7a4 15 = .ok (.iload_n 0, 1) := by decide +kernel
theorem dJ6_bitCount_0f7a4_16 : decode cJ6_bitCount_0f7a4 16 = .ok (.iconst 2, 1) := by decide +kernel
theorem dJ6_bitCount_0f7a4_17 : decode cJ6_bitCount_0f7a4 17 = .ok (.iushr, 1) := by decide +kernel
theorem dJ6_bitCount_0f7a4_18 : decode cJ6_bitCount_0f7a4 18 = .ok (.ldc_w 266, 3) := by decide +kernel
theorem dJ6_bitCount_0f7a4_21 : decode cJ6_bitCount_0f7a4 21 = .ok (.iand, 1) := by decide +kernel
theorem dJ6_bitCount_0f7a4_22 : decode cJ6_bitCount_0f7a4 22 = .ok (.iadd, 1) := by decide +kernel
theorem dJ6_bitCount_0f7a4_23 : decode cJ6_bitCount_0f7a4 23 = .ok (.istore_n 0, 1) := by decide +kernel
theorem dJ6_bitCount_0f7a4_24 : decode cJ6_bitCount_0f7a4 24 = .ok (.iload_n 0, 1) := by decide +kernel
theorem dJ6_bitCount_0f7a4_25 : decode cJ6_bitCount_0f7a4 25 = .ok (.iload_n 0, 1) := by decide +kernel
theorem dJ6_bitCount_0f7a4_26 : decode cJ6_bitCount_0f7a4 26 = .ok (.iconst 4, 1) := by decide +kernel
theorem dJ6_bitCount_0f7a4_27 : decode cJ6_bitCount_0f7a4 27 = .ok (.iushr, 1) := by decide +kernel
theorem dJ6_bitCount_0f7a4_28 : decode cJ6_bitCount_0f7a4 28 = .ok (.iadd, 1) := by decide +kernel
theorem dJ6_bitCount_0f7a4_29 : decode cJ6_bitCount_0f7a4 29 = .ok (.ldc_w 267, 3) := by decide +kernel
theorem dJ6_bitCount_0f7a4_32 : decode cJ6_bitCount_0f7a4 32 = .ok (.iand, 1) := by decide +kernel
theorem dJ6_bitCount_0f7a4_33 : decode cJ6_bitCount_0f7a4 33 = .ok (.istore_n 0, 1) := by decide +kernel
theorem dJ6_bitCount_0f7a4_34 : decode cJ6_bitCount_0f7a4 34 = .ok (.iload_n 0, 1) := by decide +kernel
theorem dJ6_bitCount_0f7a4_35 : decode cJ6_bitCount_0f7a4 35 = .ok (.iload_n 0, 1) := by decide +kernel
theorem dJ6_bitCount_0f7a4_36 : decode cJ6_bitCount_0f7a4 36 = .ok (.bipush 8, 2) := by decide +kernel
theorem dJ6_bitCount_0f7a4_38 : decode cJ6_bitCount_0f7a4 38 = .ok (.iushr, 1) := by decide +kernel
theorem dJ6_bitCount_0f7a4_39 : decode cJ6_bitCount_0f7a4 39 = .ok (.iadd, 1) := by decide +kernel
theorem dJ6_bitCount_0f7a4_40 : decode cJ6_bitCount_0f7a4 40 = .ok (.istore_n 0, 1) := by decide +kernel
theorem dJ6_bitCount_0f7a4_41 : decode cJ6_bitCount_0f7a4 41 = .ok (.iload_n 0, 1) := by decide +kernel
theorem dJ6_bitCount_0f7a4_42 : decode cJ6_bitCount_0f7a4 42 = .ok (.iload_n 0, 1) := by decide +kernel
theorem dJ6_bitCount_0f7a4_43 : decode cJ6_bitCount_0f7a4 43 = .ok (.bipush 16, 2) := by decide +kernel
theorem dJ6_bitCount_0f7a4_45 : decode cJ6_bitCount_0f7a4 45 = .ok (.iushr, 1) := by decide +kernel
theorem dJ6_bitCount_0f7a4_46 : decode cJ6_bitCount_0f7a4 46 = .ok (.iadd, 1) := by decide +kernel
theorem dJ6_bitCount_0f7a4_47 : decode cJ6_bitCount_0f7a4 47 = .ok (.istore_n 0, 1) := by decide +kernel
theorem dJ6_bitCount_0f7a4_48 : decode cJ6_bitCount_0f7a4 48 = .ok (.iload_n 0, 1) := by decide +kernel
theorem dJ6_bitCount_0f7a4_49 : decode cJ6_bitCount_0f7a4 49 = .ok (.bipush 63, 2) := by decide +kernel
theorem dJ6_bitCount_0f7a4_51 : decode cJ6_bitCount_0f7a4 51 = .ok (.iand, 1) := by decide +kernel
theorem dJ6_bitCount_0f7a4_52 : decode cJ6_bitCount_0f7a4 52 = .ok (.ireturn, 1) := by decide +kernel
theorem dJ9_max_7cf53_0 : decode cJ9_max_7cf53 0 = .ok (.iload_n 0, 1) := by decide +kernel
theorem dJ9_max_7cf53_1 : decode cJ9_max_7cf53 1 = .ok (.iload_n 1, 1) := by decide +kernel
theorem dJ9_max_7cf53_2 : decode cJ9_max_7cf53 2 = .ok (.if_icmp .lt 7, 3) := by decide +kernel
theorem dJ9_max_7cf53_5 : decode cJ9_max_7cf53 5 = .ok (.iload_n 0, 1) := by decide +kernel
theorem dJ9_max_7cf53_6 : decode cJ9_max_7cf53 6 = .ok (.goto 4, 3) := by decide +kernel
theorem dJ9_max_7cf53_9 : decode cJ9_max_7cf53 9 = .ok (.iload_n 1, 1) := by decide +kernel
theorem dJ9_max_7cf53_10 : decode cJ9_max_7cf53 10 = .ok (.ireturn, 1) := by decide +kernel
theorem dJ9_min_7cf53_0 : decode cJ9_min_7cf53 0 = .ok (.iload_n 0, 1) := by decide +kernel
theorem dJ9_min_7cf53_1 : decode cJ9_min_7cf53 1 = .ok (.iload_n 1, 1) := by decide +kernel
theorem dJ9_min_7cf53_2 : decode cJ9_min_7cf53 2 = .ok (.if_icmp .gt 7, 3) := by decide +kernel
theorem dJ9_min_7cf53_5 : decode cJ9_min_7cf53 5 = .ok (.iload_n 0, 1) := by decide +kernel
theorem dJ9_min_7cf53_6 : decode cJ9_min_7cf53 6 = .ok (.goto 4, 3) := by decide +kernel
theorem dJ9_min_7cf53_9 : decode cJ9_min_7cf53 9 = .ok (.iload_n 1, 1) := by decide +kernel
theorem dJ9_min_7cf53_10 : decode cJ9_min_7cf53 10 = .ok (.ireturn, 1) := by decide +kernel
theorem dJ0_length_8abf5_0 : decode cJ0_length_8abf5 0 = .ok (.aload_n 0, 1) := by decide +kernel
theorem dJ0_length_8abf5_1 : decode cJ0_length_8abf5 1 = .ok (.getfield 9, 3) := by decide +kernel
theorem dJ0_length_8abf5_4 : decode cJ0_length_8abf5 4 = .ok (.arraylength, 1) := by decide +kernel
theorem dJ0_length_8abf5_5 : decode cJ0_length_8abf5 5 = .ok (.aload_n 0, 1) := by decide +kernel
theorem dJ0_length_8abf5_6 : decode cJ0_length_8abf5 6 = .ok (.invokevirtual 335, 3) := by decide +kernel
theorem dJ0_length_8abf5_9 : decode cJ0_length_8abf5 9 = .ok (.ishr, 1) := by decide +kernel
theorem dJ0_length_8abf5_10 : decode cJ0_length_8abf5 10 = .ok (.ireturn, 1) := by decide +kernel
theorem dJ0_charAt_5068e_0 : decode cJ0_charAt_5068e 0 = .ok (.aload_n 0, 1) := by decide +kernel
theorem dJ0_charAt_5068e_1 : decode cJ0_charAt_5068e 1 = .ok (.invokevirtual 492, 3) := by decide +kernel
theorem dJ0_charAt_5068e_4 : decode cJ0_charAt_5068e 4 = .ok (.ifCond .eq 12, 3) := by decide +kernel
theorem dJ0_charAt_5068e_7 : decode cJ0_charAt_5068e 7 = .ok (.aload_n 0, 1) := by decide +kernel
theorem dJ0_charAt_5068e_8 : decode cJ0_charAt_5068e 8 = .ok (.getfield 9, 3) := by decide +kernel
theorem dJ0_charAt_5068e_11 : decode cJ0_charAt_5068e 11 = .ok (.iload_n 1, 1) := by decide +kernel
theorem dJ0_charAt_5068e_12 : decode cJ0_charAt_5068e 12 = .ok (.invokestatic 495, 3) := by decide +kernel
theorem dJ0_charAt_5068e_15 : decode cJ0_charAt_5068e 15 = .ok (.ireturn, 1) := by decide +kernel
theorem dJ0_charAt_5068e_16 : decode cJ0_charAt_5068e 16 = .ok (.aload_n 0, 1) := by decide +kernel
theorem dJ0_charAt_5068e_17 : decode cJ0_charAt_5068e 17 = .ok (.getfield 9, 3) := by decide +kernel
theorem dJ0_charAt_5068e_20 : decode cJ0_charAt_5068e 20 = .ok (.iload_n 1, 1) := by decide +kernel
theorem dJ0_charAt_5068e_21 : decode cJ0_charAt_5068e 21 = .ok (.invokestatic 498, 3) := by decide +kernel
theorem dJ0_charAt_5068e_24 : decode cJ0_charAt_5068e 24 = .ok (.ireturn, 1) := by decide +kernel
theorem dJ0_coder_7d493_0 : decode cJ0_coder_7d493 0 = .ok (.getstatic 38, 3) := by decide +kernel
theorem dJ0_coder_7d493_3 : decode cJ0_coder_7d493 3 = .ok (.ifCond .eq 10, 3) := by decide +kernel
theorem dJ0_coder_7d493_6 : decode cJ0_coder_7d493 6 = .ok (.aload_n 0, 1) := by decide +kernel
theorem dJ0_coder_7d493_7 : decode cJ0_coder_7d493 7 = .ok (.getfield 15, 3) := by decide +kernel
theorem dJ0_coder_7d493_10 : decode cJ0_coder_7d493 10 = .ok (.goto 4, 3) := by decide +kernel
theorem dJ0_coder_7d493_13 : decode cJ0_coder_7d493 13 = .ok (.iconst 1, 1) := by decide +kernel
theorem dJ0_coder_7d493_14 : decode cJ0_coder_7d493 14 = .ok (.ireturn, 1) := by decide +kernel
theorem dJ0_isLatin1_aae02_0 : decode cJ0_isLatin1_aae02 0 = .ok (.getstatic 38, 3) := by decide +kernel
theorem dJ0_isLatin1_aae02_3 : decode cJ0_isLatin1_aae02 3 = .ok (.ifCond .eq 14, 3) := by decide +kernel
theorem dJ0_isLatin1_aae02_6 : decode cJ0_isLatin1_aae02 6 = .ok (.aload_n 0, 1) := by decide +kernel
theorem dJ0_isLatin1_aae02_7 : decode cJ0_isLatin1_aae02 7 = .ok (.getfield 15, 3) := by decide +kernel
theorem dJ0_isLatin1_aae02_10 : decode cJ0_isLatin1_aae02 10 = .ok (.ifCond .ne 7, 3) := by decide +kernel
theorem dJ0_isLatin1_aae02_13 : decode cJ0_isLatin1_aae02 13 = .ok (.iconst 1, 1) := by decide +kernel
theorem dJ0_isLatin1_aae02_14 : decode cJ0_isLatin1_aae02 14 = .ok (.goto 4, 3) := by decide +kernel
theorem dJ0_isLatin1_aae02_17 : decode cJ0_isLatin1_aae02 17 = .ok (.iconst 0, 1) := by decide +kernel
theorem dJ0_isLatin1_aae02_18 : decode cJ0_isLatin1_aae02 18 = .ok (.ireturn, 1) := by decide +kernel
theorem dJ0_checkIndex_df160_0 : decode cJ0_checkIndex_df160 0 = .ok (.iload_n 0, 1) := by decide +kernel
theorem dJ0_checkIndex_df160_1 : decode cJ0_checkIndex_df160 1 = .ok (.iload_n 1, 1) := by decide +kernel
theorem dJ0_checkIndex_df160_2 : decode cJ0_checkIndex_df160 2 = .ok (.getstatic 1053, 3) := by decide +kernel
theorem dJ0_checkIndex_df160_5 : decode cJ0_checkIndex_df160 5 = .ok (.invokestatic 1059, 3) := by decide +kernel
theorem dJ0_checkIndex_df160_8 : decode cJ0_checkIndex_df160 8 = .ok (.pop, 1) := by decide +kernel
theorem dJ0_checkIndex_df160_9 : decode cJ0_checkIndex_df160 9 = .ok (.return_, 1) := by decide +kernel
theorem dJ1_charAt_3b067_0 : decode cJ1_charAt_3b067 0 = .ok (.iload_n 1, 1) := by decide +kernel
theorem dJ1_charAt_3b067_1 : decode cJ1_charAt_3b067 1 = .ok (.aload_n 0, 1) := by decide +kernel
theorem dJ1_charAt_3b067_2 : decode cJ1_charAt_3b067 2 = .ok (.arraylength, 1) := by decide +kernel
theorem dJ1_charAt_3b067_3 : decode cJ1_charAt_3b067 3 = .ok (.invokestatic 9, 3) := by decide +kernel
theorem dJ1_charAt_3b067_6 : decode cJ1_charAt_3b067 6 = .ok (.aload_n 0, 1) := by decide +kernel
theorem dJ1_charAt_3b067_7 : decode cJ1_charAt_3b067 7 = .ok (.iload_n 1, 1) := by decide +kernel
theorem dJ1_charAt_3b067_8 : decode cJ1_charAt_3b067 8 = .ok (.baload, 1) := by decide +kernel
theorem dJ1_charAt_3b067_9 : decode cJ1_charAt_3b067 9 = .ok (.sipush 255, 3) := by decide +kernel
theorem dJ1_charAt_3b067_12 : decode cJ1_charAt_3b067 12 = .ok (.iand, 1) := by decide +kernel
theorem dJ1_charAt_3b067_13 : decode cJ1_charAt_3b067 13 = .ok (.i2c, 1) := by decide +kernel
theorem dJ1_charAt_3b067_14 : decode cJ1_charAt_3b067 14 = .ok (.ireturn, 1) := by decide +kernel
theorem dJ2_getChar_3b067_0 : decode cJ2_getChar_3b067 0 = .ok (.getstatic 44, 3) := by decide +kernel
theorem dJ2_getChar_3b067_3 : decode cJ2_getChar_3b067 3 = .ok (.ifCond .ne 25, 3) := by decide +kernel
theorem dJ2_getChar_3b067_6 : decode cJ2_getChar_3b067 6 = .ok (.iload_n 1, 1) := by decide +kernel
theorem dJ2_getChar_3b067_7 : decode cJ2_getChar_3b067 7 = .ok (.ifCond .lt 11, 3) := by decide +kernel
theorem dJ2_getChar_3b067_10 : decode cJ2_getChar_3b067 10 = .ok (.iload_n 1, 1) := by decide +kernel
theorem dJ2_getChar_3b067_11 : decode cJ2_getChar_3b067 11 = .ok (.aload_n 0, 1) := by decide +kernel
theorem dJ2_getChar_3b067_12 : decode cJ2_getChar_3b067 12 = .ok (.invokestatic 48, 3) := by decide +kernel
theorem dJ2_getChar_3b067_15 : decode cJ2_getChar_3b067 15 = .ok (.if_icmp .lt 13, 3) := by decide +kernel
theorem dJ2_getChar_3b067_18 : decode cJ2_getChar_3b067 18 = .ok (.new 52, 3) := by decide +kernel
theorem dJ2_getChar_3b067_21 : decode cJ2_getChar_3b067 21 = .ok (.dup, 1) := by decide +kernel
theorem dJ2_getChar_3b067_22 : decode cJ2_getChar_3b067 22 = .ok (.ldc 54, 2) := by decide +kernel
theorem dJ2_getChar_3b067_24 : decode cJ2_getChar_3b067 24 = .ok (.invokespecial 56, 3) := by decide +kernel
theorem dJ2_getChar_3b067_27 : decode cJ2_getChar_3b067 27 = .ok (.athrow, 1) := by decide +kernel
theorem dJ2_getChar_3b067_28 : decode cJ2_getChar_3b067 28 = .ok (.iload_n 1, 1) := by decide +kernel
theorem dJ2_getChar_3b067_29 : decode cJ2_getChar_3b067 29 = .ok (.iconst 1, 1) := by decide +kernel
theorem dJ2_getChar_3b067_30 : decode cJ2_getChar_3b067 30 = .ok (.ishl, 1) := by decide +kernel
theorem dJ2_getChar_3b067_31 : decode cJ2_getChar_3b067 31 = .ok (.istore_n 1, 1) := by decide +kernel
theorem dJ2_getChar_3b067_32 : decode cJ2_getChar_3b067 32 = .ok (.aload_n 0, 1) := by decide +kernel
theorem dJ2_getChar_3b067_33 : decode cJ2_getChar_3b067 33 = .ok (.iload_n 1, 1) := by decide +kernel
theorem dJ2_getChar_3b067_34 : decode cJ2_getChar_3b067 34 = .ok (.iinc 1 1, 3) := by decide +kernel
theorem dJ2_getChar_3b067_37 : decode cJ2_getChar_3b067 37 = .ok (.baload, 1) := by decide +kernel
theorem dJ2_getChar_3b067_38 : decode cJ2_getChar_3b067 38 = .ok (.sipush 255, 3) := by decide +kernel
theorem dJ2_getChar_3b067_41 : decode cJ2_getChar_3b067 41 = .ok (.iand, 1) := by decide +kernel
theorem dJ2_getChar_3b067_42 : decode cJ2_getChar_3b067 42 = .ok (.getstatic 59, 3) := by decide +kernel
theorem dJ2_getChar_3b067_45 : decode cJ2_getChar_3b067 45 = .ok (.ishl, 1) := by decide +kernel
theorem dJ2_getChar_3b067_46 : decode cJ2_getChar_3b067 46 = .ok (.aload_n 0, 1) := by decide +kernel
theorem dJ2_getChar_3b067_47 : decode cJ2_getChar_3b067 47 = .ok (.iload_n 1, 1) := by decide +kernel
theorem dJ2_getChar_3b067_48 : decode cJ2_getChar_3b067 48 = .ok (.baload, 1) := by decide +kernel
theorem dJ2_getChar_3b067_49 : decode cJ2_getChar_3b067 49 = .ok (.sipush 255, 3) := by decide +kernel
theorem dJ2_getChar_3b067_52 : decode cJ2_getChar_3b067 52 = .ok (.iand, 1) := by decide +kernel
theorem dJ2_getChar_3b067_53 : decode cJ2_getChar_3b067 53 = .ok (.getstatic 63, 3) := by decide +kernel
theorem dJ2_getChar_3b067_56 : decode cJ2_getChar_3b067 56 = .ok (.ishl, 1) := by decide +kernel
theorem dJ2_getChar_3b067_57 : decode cJ2_getChar_3b067 57 = .ok (.ior, 1) := by decide +kernel
theorem dJ2_getChar_3b067_58 : decode cJ2_getChar_3b067 58 = .ok (.i2c, 1) := by decide +kernel
theorem dJ2_getChar_3b067_59 : decode cJ2_getChar_3b067 59 = .ok (.ireturn, 1) := by decide +kernel
theorem dJ2_length_9d52b_0 : decode cJ2_length_9d52b 0 = .ok (.aload_n 0, 1) := by decide +kernel
theorem dJ2_length_9d52b_1 : decode cJ2_length_9d52b 1 = .ok (.arraylength, 1) := by decide +kernel
theorem dJ2_length_9d52b_2 : decode cJ2_length_9d52b 2 = .ok (.iconst 1, 1) := by decide +kernel
theorem dJ2_length_9d52b_3 : decode cJ2_length_9d52b 3 = .ok (.ishr, 1) := by decide +kernel
theorem dJ2_length_9d52b_4 : decode cJ2_length_9d52b 4 = .ok (.ireturn, 1) := by decide +kernel
theorem dJ2_charAt_3b067_0 : decode cJ2_charAt_3b067 0 = .ok (.iload_n 1, 1) := by decide +kernel
theorem dJ2_charAt_3b067_1 : decode cJ2_charAt_3b067 1 = .ok (.aload_n 0, 1) := by decide +kernel
theorem dJ2_charAt_3b067_2 : decode cJ2_charAt_3b067 2 = .ok (.invokestatic 67, 3) := by decide +kernel
theorem dJ2_charAt_3b067_5 : decode cJ2_charAt_3b067 5 = .ok (.aload_n 0, 1) := by decide +kernel
theorem dJ2_charAt_3b067_6 : decode cJ2_charAt_3b067 6 = .ok (.iload_n 1, 1) := by decide +kernel
theorem dJ2_charAt_3b067_7 : decode cJ2_charAt_3b067 7 = .ok (.invokestatic 71, 3) := by decide +kernel
theorem dJ2_charAt_3b067_10 : decode cJ2_charAt_3b067 10 = .ok (.ireturn, 1) := by decide +kernel
theorem dJ2_checkIndex_2214a_0 : decode cJ2_checkIndex_2214a 0 = .ok (.iload_n 0, 1) := by decide +kernel
theorem dJ2_checkIndex_2214a_1 : decode cJ2_checkIndex_2214a 1 = .ok (.aload_n 1, 1) := by decide +kernel
theorem dJ2_checkIndex_2214a_2 : decode cJ2_checkIndex_2214a 2 = .ok (.invokestatic 48, 3) := by decide +kernel
theorem dJ2_checkIndex_2214a_5 : decode cJ2_checkIndex_2214a 5 = .ok (.invokestatic 414, 3) := by decide +kernel
theorem dJ2_checkIndex_2214a_8 : decode cJ2_checkIndex_2214a 8 = .ok (.return_, 1) := by decide +kernel
theorem dJ7_fill_d0a16_0 : decode cJ7_fill_d0a16 0 = .ok (.iconst 0, 1) := by decide +kernel
theorem dJ7_fill_d0a16_1 : decode cJ7_fill_d0a16 1 = .ok (.istore_n 3, 1) := by decide +kernel
theorem dJ7_fill_d0a16_2 : decode cJ7_fill_d0a16 2 = .ok (.aload_n 0, 1) := by decide +kernel
theorem dJ7_fill_d0a16_3 : decode cJ7_fill_d0a16 3 = .ok (.arraylength, 1) := by decide +kernel
theorem dJ7_fill_d0a16_4 : decode cJ7_fill_d0a16 4 = .ok (.istore 4, 2) := by decide +kernel
theorem dJ7_fill_d0a16_6 : decode cJ7_fill_d0a16 6 = .ok (.iload_n 3, 1) := by decide +kernel
theorem dJ7_fill_d0a16_7 : decode cJ7_fill_d0a16 7 = .ok (.iload 4, 2) := by decide +kernel
theorem dJ7_fill_d0a16_9 : decode cJ7_fill_d0a16 9 = .ok (.if_icmp .ge 13, 3) := by decide +kernel
theorem dJ7_fill_d0a16_12 : decode cJ7_fill_d0a16 12 = .ok (.aload_n 0, 1) := by decide +kernel
theorem dJ7_fill_d0a16_13 : decode cJ7_fill_d0a16 13 = .ok (.iload_n 3, 1) := by decide +kernel
theorem dJ7_fill_d0a16_14 : decode cJ7_fill_d0a16 14 = .ok (.lload_n 1, 1) := by decide +kernel
theorem dJ7_fill_d0a16_15 : decode cJ7_fill_d0a16 15 = .ok (.lastore, 1) := by decide +kernel
theorem dJ7_fill_d0a16_16 : decode cJ7_fill_d0a16 16 = .ok (.iinc 3 1, 3) := by decide +kernel
theorem dJ7_fill_d0a16_19 : decode cJ7_fill_d0a16 19 = .ok (.goto (-13), 3) := by decide +kernel
theorem dJ7_fill_d0a16_22 : decode cJ7_fill_d0a16 22 = .ok (.return_, 1) := by decide +kernel
theorem dJ3_checkIndex_8e157_0 : decode cJ3_checkIndex_8e157 0 = .ok (.iload_n 0, 1) := by decide +kernel
theorem dJ3_checkIndex_8e157_1 : decode cJ3_checkIndex_8e157 1 = .ok (.ifCond .lt 8, 3) := by decide +kernel
theorem dJ3_checkIndex_8e157_4 : decode cJ3_checkIndex_8e157 4 = .ok (.iload_n 0, 1) := by decide +kernel
theorem dJ3_checkIndex_8e157_5 : decode cJ3_checkIndex_8e157 5 = .ok (.iload_n 1, 1) := by decide +kernel
theorem dJ3_checkIndex_8e157_6 : decode cJ3_checkIndex_8e157 6 = .ok (.if_icmp .lt 10, 3) := by decide +kernel
theorem dJ3_checkIndex_8e157_9 : decode cJ3_checkIndex_8e157 9 = .ok (.aload_n 2, 1) := by decide +kernel
theorem dJ3_checkIndex_8e157_10 : decode cJ3_checkIndex_8e157 10 = .ok (.iload_n 0, 1) := by decide +kernel
theorem dJ3_checkIndex_8e157_11 : decode cJ3_checkIndex_8e157 11 = .ok (.iload_n 1, 1) := by decide +kernel
theorem dJ3_checkIndex_8e157_12 : decode cJ3_checkIndex_8e157 12 = .ok (.invokestatic 95, 3) := by decide +kernel
theorem dJ3_checkIndex_8e157_15 : decode cJ3_checkIndex_8e157 15 = .ok (.athrow, 1) := by decide +kernel
theorem dJ3_checkIndex_8e157_16 : decode cJ3_checkIndex_8e157 16 = .ok (.iload_n 0, 1) := by decide +kernel
theorem dJ3_checkIndex_8e157_17 : decode cJ3_checkIndex_8e157 17 = .ok (.ireturn, 1) := by decide +kernel
