theorem dX7_init_0 : decode cX7_init 0 = .ok (.aload_n 0, 1) := by decide +kernel
theorem dX7_init_1 : decode cX7_init 1 = .ok (.invokespecial 1, 3) := by decide +kernel
theorem dX7_init_4 : decode cX7_init 4 = .ok (.aload_n 0, 1) := by decide +kernel
theorem dX7_init_5 : decode cX7_init 5 = .ok (.new 7, 3) := by decide +kernel
theorem dX7_init_8 : decode cX7_init 8 = .ok (.dup, 1) := by decide +kernel
theorem dX7_init_9 : decode cX7_init 9 = .ok (.invokespecial 9, 3) := by decide +kernel
theorem dX7_init_12 : decode cX7_init 12 = .ok (.putfield 10, 3) := by decide +kernel
theorem dX7_init_15 : decode cX7_init 15 = .ok (.aload_n 0, 1) := by decide +kernel
theorem dX7_init_16 : decode cX7_init 16 = .ok (.new 7, 3) := by decide +kernel
theorem dX7_init_19 : decode cX7_init 19 = .ok (.dup, 1) := by decide +kernel
theorem dX7_init_20 : decode cX7_init 20 = .ok (.invokespecial 9, 3) := by decide +kernel
theorem dX7_init_23 : decode cX7_init 23 = .ok (.putfield 16, 3) := by decide +kernel
theorem dX7_init_26 : decode cX7_init 26 = .ok (.aload_n 0, 1) := by decide +kernel
theorem dX7_init_27 : decode cX7_init 27 = .ok (.new 7, 3) := by decide +kernel
theorem dX7_init_30 : decode cX7_init 30 = .ok (.dup, 1) := by decide +kernel
theorem dX7_init_31 : decode cX7_init 31 = .ok (.invokespecial 9, 3) := by decide +kernel
theorem dX7_init_34 : decode cX7_init 34 = .ok (.putfield 19, 3) := by decide +kernel
theorem dX7_init_37 : decode cX7_init 37 = .ok (.aload_n 0, 1) := by decide +kernel
theorem dX7_init_38 : decode cX7_init 38 = .ok (.new 22, 3) := by decide +kernel
theorem dX7_init_41 : decode cX7_init 41 = .ok (.dup, 1) := by decide +kernel
theorem dX7_init_42 : decode cX7_init 42 = .ok (.invokespecial 24, 3) := by decide +kernel
theorem dX7_init_45 : decode cX7_init 45 = .ok (.putfield 25, 3) := by decide +kernel
theorem dX7_init_48 : decode cX7_init 48 = .ok (.aload_n 0, 1) := by decide +kernel
theorem dX7_init_49 : decode cX7_init 49 = .ok (.new 29, 3) := by decide +kernel
theorem dX7_init_52 : decode cX7_init 52 = .ok (.dup, 1) := by decide +kernel
theorem dX7_init_53 : decode cX7_init 53 = .ok (.invokespecial 31, 3) := by decide +kernel
theorem dX7_init_56 : decode cX7_init 56 = .ok (.putfield 32, 3) := by decide +kernel
theorem dX7_init_59 : decode cX7_init 59 = .ok (.aload_n 0, 1) := by decide +kernel
theorem dX7_init_60 : decode cX7_init 60 = .ok (.aload_n 0, 1) := by decide +kernel
theorem dX7_init_61 : decode cX7_init 61 = .ok (.getfield 32, 3) := by decide +kernel
theorem dX7_init_64 : decode cX7_init 64 = .ok (.getfield 36, 3) := by decide +kernel
theorem dX7_init_67 : decode cX7_init 67 = .ok (.putfield 40, 3) := by decide +kernel
theorem dX7_init_70 : decode cX7_init 70 = .ok (.aload_n 0, 1) := by decide +kernel
theorem dX7_init_71 : decode cX7_init 71 = .ok (.iconst 4, 1) := by decide +kernel
theorem dX7_init_72 : decode cX7_init 72 = .ok (.anewarray 41, 3) := by decide +kernel
theorem dX7_init_75 : decode cX7_init 75 = .ok (.putfield 43, 3) := by decide +kernel
theorem dX7_init_78 : decode cX7_init 78 = .ok (.aload_n 0, 1) := by decide +kernel
theorem dX7_init_79 : decode cX7_init 79 = .ok (.bipush 7, 2) := by decide +kernel
theorem dX7_init_81 : decode cX7_init 81 = .ok (.newarray .int, 2) := by decide +kernel
theorem dX7_init_83 : decode cX7_init 83 = .ok (.putfield 47, 3) := by decide +kernel
theorem dX7_init_86 : decode cX7_init 86 = .ok (.iconst 0, 1) := by decide +kernel
theorem dX7_init_87 : decode cX7_init 87 = .ok (.istore_n 1, 1) := by decide +kernel
theorem dX7_init_88 : decode cX7_init 88 = .ok (.iload_n 1, 1) := by decide +kernel
theorem dX7_init_89 : decode cX7_init 89 = .ok (.iconst 4, 1) := by decide +kernel
theorem dX7_init_90 : decode cX7_init 90 = .ok (.if_icmp .ge 22, 3) := by decide +kernel
theorem dX7_init_93 : decode cX7_init 93 = .ok (.aload_n 0, 1) := by decide +kernel
theorem dX7_init_94 : decode cX7_init 94 = .ok (.getfield 43, 3) := by decide +kernel
theorem dX7_init_97 : decode cX7_init 97 = .ok (.iload_n 1, 1) := by decide +kernel
theorem dX7_init_98 : decode cX7_init 98 = .ok (.new 41, 3) := by decide +kernel
theorem dX7_init_101 : decode cX7_init 101 = .ok (.dup, 1) := by decide +kernel
theorem dX7_init_102 : decode cX7_init 102 = .ok (.invokespecial 51, 3) := by decide +kernel
theorem dX7_init_105 : decode cX7_init 105 = .ok (.aastore, 1) := by decide +kernel
theorem dX7_init_106 : decode cX7_init 106 = .ok (.iinc 1 1, 3) := by decide +kernel
theorem dX7_init_109 : decode cX7_init 109 = .ok (.goto (-21), 3) := by decide +kernel
theorem dX7_init_112 : decode cX7_init 112 = .ok (.return_, 1) := by decide +kernel
theorem dX7_person_0 : decode cX7_person 0 = .ok (.iload_n 1, 1) := by decide +kernel
theorem dX7_person_1 : decode cX7_person 1 = .ok (.invokestatic 52, 3) := by decide +kernel
theorem dX7_person_4 : decode cX7_person 4 = .ok (.ifCond .ne 9, 3) := by decide +kernel
theorem dX7_person_7 : decode cX7_person 7 = .ok (.aload_n 0, 1) := by decide +kernel
theorem dX7_person_8 : decode cX7_person 8 = .ok (.iconst 0, 1) := by decide +kernel
theorem dX7_person_9 : decode cX7_person 9 = .ok (.invokevirtual 56, 3) := by decide +kernel
theorem dX7_person_12 : decode cX7_person 12 = .ok (.ireturn, 1) := by decide +kernel
theorem dX7_person_13 : decode cX7_person 13 = .ok (.aload_n 0, 1) := by decide +kernel
theorem dX7_person_14 : decode cX7_person 14 = .ok (.getfield 10, 3) := by decide +kernel
theorem dX7_person_17 : decode cX7_person 17 = .ok (.invokevirtual 60, 3) := by decide +kernel
theorem dX7_person_20 : decode cX7_person 20 = .ok (.ifCond .eq 9, 3) := by decide +kernel
theorem dX7_person_23 : decode cX7_person 23 = .ok (.aload_n 0, 1) := by decide +kernel
theorem dX7_person_24 : decode cX7_person 24 = .ok (.iconst 1, 1) := by decide +kernel
theorem dX7_person_25 : decode cX7_person 25 = .ok (.invokevirtual 56, 3) := by decide +kernel
theorem dX7_person_28 : decode cX7_person 28 = .ok (.ireturn, 1) := by decide +kernel
theorem dX7_person_29 : decode cX7_person 29 = .ok (.aload_n 0, 1) := by decide +kernel
theorem dX7_person_30 : decode cX7_person 30 = .ok (.getfield 10, 3) := by decide +kernel
theorem dX7_person_33 : decode cX7_person 33 = .ok (.iload_n 1, 1) := by decide +kernel
theorem dX7_person_34 : decode cX7_person 34 = .ok (.invokevirtual 64, 3) := by decide +kernel
theorem dX7_person_37 : decode cX7_person 37 = .ok (.ireturn, 1) := by decide +kernel
theorem dX7_of_0 : decode cX7_of 0 = .ok (.aload_n 0, 1) := by decide +kernel
theorem dX7_of_1 : decode cX7_of 1 = .ok (.getfield 10, 3) := by decide +kernel
theorem dX7_of_4 : decode cX7_of 4 = .ok (.iload_n 1, 1) := by decide +kernel
theorem dX7_of_5 : decode cX7_of 5 = .ok (.invokevirtual 67, 3) := by decide +kernel
theorem dX7_of_8 : decode cX7_of 8 = .ok (.ifCond .ne 9, 3) := by decide +kernel
theorem dX7_of_11 : decode cX7_of 11 = .ok (.aload_n 0, 1) := by decide +kernel
theorem dX7_of_12 : decode cX7_of 12 = .ok (.iconst 0, 1) := by decide +kernel
theorem dX7_of_13 : decode cX7_of 13 = .ok (.invokevirtual 56, 3) := by decide +kernel
theorem dX7_of_16 : decode cX7_of 16 = .ok (.ireturn, 1) := by decide +kernel
theorem dX7_of_17 : decode cX7_of 17 = .ok (.iload_n 2, 1) := by decide +kernel
theorem dX7_of_18 : decode cX7_of 18 = .ok (.tableswitch 120 0 6 #[42, 52, 62, 72, 82, 92, 102], 42) := by decide +kernel
theorem dX7_of_60 : decode cX7_of 60 = .ok (.aload_n 0, 1) := by decide +kernel
theorem dX7_of_61 : decode cX7_of 61 = .ok (.getfield 10, 3) := by decide +kernel
theorem dX7_of_64 : decode cX7_of 64 = .ok (.getfield 70, 3) := by decide +kernel
theorem dX7_of_67 : decode cX7_of 67 = .ok (.iload_n 1, 1) := by decide +kernel
theorem dX7_of_68 : decode cX7_of 68 = .ok (.iaload, 1) := by decide +kernel
theorem dX7_of_69 : decode cX7_of 69 = .ok (.ireturn, 1) := by decide +kernel
theorem dX7_of_70 : decode cX7_of 70 = .ok (.aload_n 0, 1) := by decide +kernel
theorem dX7_of_71 : decode cX7_of 71 = .ok (.getfield 10, 3) := by decide +kernel
theorem dX7_of_74 : decode cX7_of 74 = .ok (.getfield 73, 3) := by decide +kernel
theorem dX7_of_77 : decode cX7_of 77 = .ok (.iload_n 1, 1) := by decide +kernel
theorem dX7_of_78 : decode cX7_of 78 = .ok (.iaload, 1) := by decide +kernel
theorem dX7_of_79 : decode cX7_of 79 = .ok (.ireturn, 1) := by decide +kernel
theorem dX7_of_80 : decode cX7_of 80 = .ok (.aload_n 0, 1) := by decide +kernel
theorem dX7_of_81 : decode cX7_of 81 = .ok (.getfield 10, 3) := by decide +kernel
theorem dX7_of_84 : decode cX7_of 84 = .ok (.getfield 76, 3) := by decide +kernel
theorem dX7_of_87 : decode cX7_of 87 = .ok (.iload_n 1, 1) := by decide +kernel
theorem dX7_of_88 : decode cX7_of 88 = .ok (.iaload, 1) := by decide +kernel
theorem dX7_of_89 : decode cX7_of 89 = .ok (.ireturn, 1) := by decide +kernel
theorem dX7_of_90 : decode cX7_of 90 = .ok (.aload_n 0, 1) := by decide +kernel
theorem dX7_of_91 : decode cX7_of 91 = .ok (.getfield 10, 3) := by decide +kernel
theorem dX7_of_94 : decode cX7_of 94 = .ok (.getfield 79, 3) := by decide +kernel
theorem dX7_of_97 : decode cX7_of 97 = .ok (.iload_n 1, 1) := by decide +kernel
theorem dX7_of_98 : decode cX7_of 98 = .ok (.iaload, 1) := by decide +kernel
theorem dX7_of_99 : decode cX7_of 99 = .ok (.ireturn, 1) := by decide +kernel
theorem dX7_of_100 : decode cX7_of 100 = .ok (.aload_n 0, 1) := by decide +kernel
theorem dX7_of_101 : decode cX7_of 101 = .ok (.getfield 10, 3) := by decide +kernel
theorem dX7_of_104 : decode cX7_of 104 = .ok (.getfield 82, 3) := by decide +kernel
theorem dX7_of_107 : decode cX7_of 107 = .ok (.iload_n 1, 1) := by decide +kernel
theorem dX7_of_108 : decode cX7_of 108 = .ok (.iaload, 1) := by decide +kernel
theorem dX7_of_109 : decode cX7_of 109 = .ok (.ireturn, 1) := by decide +kernel
theorem dX7_of_110 : decode cX7_of 110 = .ok (.aload_n 0, 1) := by decide +kernel
theorem dX7_of_111 : decode cX7_of 111 = .ok (.getfield 10, 3) := by decide +kernel
theorem dX7_of_114 : decode cX7_of 114 = .ok (.getfield 85, 3) := by decide +kernel
theorem dX7_of_117 : decode cX7_of 117 = .ok (.iload_n 1, 1) := by decide +kernel
theorem dX7_of_118 : decode cX7_of 118 = .ok (.iaload, 1) := by decide +kernel
theorem dX7_of_119 : decode cX7_of 119 = .ok (.ireturn, 1) := by decide +kernel
theorem dX7_of_120 : decode cX7_of 120 = .ok (.aload_n 0, 1) := by decide +kernel
theorem dX7_of_121 : decode cX7_of 121 = .ok (.getfield 10, 3) := by decide +kernel
theorem dX7_of_124 : decode cX7_of 124 = .ok (.iload_n 1, 1) := by decide +kernel
theorem dX7_of_125 : decode cX7_of 125 = .ok (.aload_n 0, 1) := by decide +kernel
theorem dX7_of_126 : decode cX7_of 126 = .ok (.getfield 10, 3) := by decide +kernel
theorem dX7_of_129 : decode cX7_of 129 = .ok (.getfield 85, 3) := by decide +kernel
theorem dX7_of_132 : decode cX7_of 132 = .ok (.iload_n 1, 1) := by decide +kernel
theorem dX7_of_133 : decode cX7_of 133 = .ok (.iaload, 1) := by decide +kernel
theorem dX7_of_134 : decode cX7_of 134 = .ok (.invokevirtual 88, 3) := by decide +kernel
theorem dX7_of_137 : decode cX7_of 137 = .ok (.ireturn, 1) := by decide +kernel
theorem dX7_of_138 : decode cX7_of 138 = .ok (.aload_n 0, 1) := by decide +kernel
theorem dX7_of_139 : decode cX7_of 139 = .ok (.iconst 0, 1) := by decide +kernel
theorem dX7_of_140 : decode cX7_of 140 = .ok (.invokevirtual 56, 3) := by decide +kernel
theorem dX7_of_143 : decode cX7_of 143 = .ok (.ireturn, 1) := by decide +kernel
theorem dX7_says_0 : decode cX7_says 0 = .ok (.aload_n 0, 1) := by decide +kernel
theorem dX7_says_1 : decode cX7_says 1 = .ok (.getfield 10, 3) := by decide +kernel
theorem dX7_says_4 : decode cX7_says 4 = .ok (.iload_n 1, 1) := by decide +kernel
theorem dX7_says_5 : decode cX7_says 5 = .ok (.invokevirtual 67, 3) := by decide +kernel
theorem dX7_says_8 : decode cX7_says 8 = .ok (.ifCond .ne 9, 3) := by decide +kernel
theorem dX7_says_11 : decode cX7_says 11 = .ok (.aload_n 0, 1) := by decide +kernel
theorem dX7_says_12 : decode cX7_says 12 = .ok (.iconst 0, 1) := by decide +kernel
theorem dX7_says_13 : decode cX7_says 13 = .ok (.invokevirtual 56, 3) := by decide +kernel
theorem dX7_says_16 : decode cX7_says 16 = .ok (.ireturn, 1) := by decide +kernel
theorem dX7_says_17 : decode cX7_says 17 = .ok (.bipush 100, 2) := by decide +kernel
theorem dX7_says_19 : decode cX7_says 19 = .ok (.aload_n 0, 1) := by decide +kernel
theorem dX7_says_20 : decode cX7_says 20 = .ok (.getfield 10, 3) := by decide +kernel
theorem dX7_says_23 : decode cX7_says 23 = .ok (.iload_n 1, 1) := by decide +kernel
theorem dX7_says_24 : decode cX7_says 24 = .ok (.aload_n 0, 1) := by decide +kernel
theorem dX7_says_25 : decode cX7_says 25 = .ok (.getfield 10, 3) := by decide +kernel
theorem dX7_says_28 : decode cX7_says 28 = .ok (.getfield 85, 3) := by decide +kernel
theorem dX7_says_31 : decode cX7_says 31 = .ok (.iload_n 1, 1) := by decide +kernel
theorem dX7_says_32 : decode cX7_says 32 = .ok (.iaload, 1) := by decide +kernel
theorem dX7_says_33 : decode cX7_says 33 = .ok (.invokevirtual 92, 3) := by decide +kernel
theorem dX7_says_36 : decode cX7_says 36 = .ok (.iadd, 1) := by decide +kernel
theorem dX7_says_37 : decode cX7_says 37 = .ok (.ireturn, 1) := by decide +kernel
theorem dX7_set_0 : decode cX7_set 0 = .ok (.aload_n 0, 1) := by decide +kernel
theorem dX7_set_1 : decode cX7_set 1 = .ok (.getfield 10, 3) := by decide +kernel
theorem dX7_set_4 : decode cX7_set 4 = .ok (.iload_n 1, 1) := by decide +kernel
theorem dX7_set_5 : decode cX7_set 5 = .ok (.invokevirtual 67, 3) := by decide +kernel
theorem dX7_set_8 : decode cX7_set 8 = .ok (.ifCond .ne 9, 3) := by decide +kernel
theorem dX7_set_11 : decode cX7_set 11 = .ok (.aload_n 0, 1) := by decide +kernel
theorem dX7_set_12 : decode cX7_set 12 = .ok (.iconst 0, 1) := by decide +kernel
theorem dX7_set_13 : decode cX7_set 13 = .ok (.invokevirtual 56, 3) := by decide +kernel
theorem dX7_set_16 : decode cX7_set 16 = .ok (.ireturn, 1) := by decide +kernel
theorem dX7_set_17 : decode cX7_set 17 = .ok (.iload_n 2, 1) := by decide +kernel
theorem dX7_set_18 : decode cX7_set 18 = .ok (.tableswitch 94 1 4 #[30, 46, 62, 78], 30) := by decide +kernel
theorem dX7_set_48 : decode cX7_set 48 = .ok (.aload_n 0, 1) := by decide +kernel
theorem dX7_set_49 : decode cX7_set 49 = .ok (.aload_n 0, 1) := by decide +kernel
theorem dX7_set_50 : decode cX7_set 50 = .ok (.getfield 10, 3) := by decide +kernel
theorem dX7_set_53 : decode cX7_set 53 = .ok (.getfield 73, 3) := by decide +kernel
theorem dX7_set_56 : decode cX7_set 56 = .ok (.iload_n 1, 1) := by decide +kernel
theorem dX7_set_57 : decode cX7_set 57 = .ok (.iload_n 3, 1) := by decide +kernel
theorem dX7_set_58 : decode cX7_set 58 = .ok (.bipush 20, 2) := by decide +kernel
theorem dX7_set_60 : decode cX7_set 60 = .ok (.invokevirtual 95, 3) := by decide +kernel
theorem dX7_set_63 : decode cX7_set 63 = .ok (.ireturn, 1) := by decide +kernel
theorem dX7_set_64 : decode cX7_set 64 = .ok (.aload_n 0, 1) := by decide +kernel
theorem dX7_set_65 : decode cX7_set 65 = .ok (.aload_n 0, 1) := by decide +kernel
theorem dX7_set_66 : decode cX7_set 66 = .ok (.getfield 10, 3) := by decide +kernel
theorem dX7_set_69 : decode cX7_set 69 = .ok (.getfield 76, 3) := by decide +kernel
theorem dX7_set_72 : decode cX7_set 72 = .ok (.iload_n 1, 1) := by decide +kernel
theorem dX7_set_73 : decode cX7_set 73 = .ok (.iload_n 3, 1) := by decide +kernel
theorem dX7_set_74 : decode cX7_set 74 = .ok (.ldc 99, 2) := by decide +kernel
theorem dX7_set_76 : decode cX7_set 76 = .ok (.invokevirtual 95, 3) := by decide +kernel
theorem dX7_set_79 : decode cX7_set 79 = .ok (.ireturn, 1) := by decide +kernel
theorem dX7_set_80 : decode cX7_set 80 = .ok (.aload_n 0, 1) := by decide +kernel
theorem dX7_set_81 : decode cX7_set 81 = .ok (.aload_n 0, 1) := by decide +kernel
theorem dX7_set_82 : decode cX7_set 82 = .ok (.getfield 10, 3) := by decide +kernel
theorem dX7_set_85 : decode cX7_set 85 = .ok (.getfield 79, 3) := by decide +kernel
theorem dX7_set_88 : decode cX7_set 88 = .ok (.iload_n 1, 1) := by decide +kernel
theorem dX7_set_89 : decode cX7_set 89 = .ok (.iload_n 3, 1) := by decide +kernel
theorem dX7_set_90 : decode cX7_set 90 = .ok (.bipush 99, 2) := by decide +kernel
theorem dX7_set_92 : decode cX7_set 92 = .ok (.invokevirtual 95, 3) := by decide +kernel
theorem dX7_set_95 : decode cX7_set 95 = .ok (.ireturn, 1) := by decide +kernel
theorem dX7_set_96 : decode cX7_set 96 = .ok (.aload_n 0, 1) := by decide +kernel
theorem dX7_set_97 : decode cX7_set 97 = .ok (.aload_n 0, 1) := by decide +kernel
theorem dX7_set_98 : decode cX7_set 98 = .ok (.getfield 10, 3) := by decide +kernel
theorem dX7_set_101 : decode cX7_set 101 = .ok (.getfield 82, 3) := by decide +kernel
theorem dX7_set_104 : decode cX7_set 104 = .ok (.iload_n 1, 1) := by decide +kernel
theorem dX7_set_105 : decode cX7_set 105 = .ok (.iload_n 3, 1) := by decide +kernel
theorem dX7_set_106 : decode cX7_set 106 = .ok (.bipush 99, 2) := by decide +kernel
theorem dX7_set_108 : decode cX7_set 108 = .ok (.invokevirtual 95, 3) := by decide +kernel
theorem dX7_set_111 : decode cX7_set 111 = .ok (.ireturn, 1) := by decide +kernel
theorem dX7_set_112 : decode cX7_set 112 = .ok (.aload_n 0, 1) := by decide +kernel
theorem dX7_set_113 : decode cX7_set 113 = .ok (.iconst 0, 1) := by decide +kernel
theorem dX7_set_114 : decode cX7_set 114 = .ok (.invokevirtual 56, 3) := by decide +kernel
theorem dX7_set_117 : decode cX7_set 117 = .ok (.ireturn, 1) := by decide +kernel
theorem dX7_turn_0 : decode cX7_turn 0 = .ok (.aload_n 0, 1) := by decide +kernel
theorem dX7_turn_1 : decode cX7_turn 1 = .ok (.getfield 10, 3) := by decide +kernel
theorem dX7_turn_4 : decode cX7_turn 4 = .ok (.iload_n 1, 1) := by decide +kernel
theorem dX7_turn_5 : decode cX7_turn 5 = .ok (.invokevirtual 67, 3) := by decide +kernel
theorem dX7_turn_8 : decode cX7_turn 8 = .ok (.ifCond .ne 9, 3) := by decide +kernel
theorem dX7_turn_11 : decode cX7_turn 11 = .ok (.aload_n 0, 1) := by decide +kernel
theorem dX7_turn_12 : decode cX7_turn 12 = .ok (.iconst 0, 1) := by decide +kernel
theorem dX7_turn_13 : decode cX7_turn 13 = .ok (.invokevirtual 56, 3) := by decide +kernel
theorem dX7_turn_16 : decode cX7_turn 16 = .ok (.ireturn, 1) := by decide +kernel
theorem dX7_turn_17 : decode cX7_turn 17 = .ok (.aload_n 0, 1) := by decide +kernel
theorem dX7_turn_18 : decode cX7_turn 18 = .ok (.aload_n 0, 1) := by decide +kernel
theorem dX7_turn_19 : decode cX7_turn 19 = .ok (.getfield 10, 3) := by decide +kernel
theorem dX7_turn_22 : decode cX7_turn 22 = .ok (.getfield 70, 3) := by decide +kernel
theorem dX7_turn_25 : decode cX7_turn 25 = .ok (.iload_n 1, 1) := by decide +kernel
theorem dX7_turn_26 : decode cX7_turn 26 = .ok (.iload_n 2, 1) := by decide +kernel
theorem dX7_turn_27 : decode cX7_turn 27 = .ok (.iconst 5, 1) := by decide +kernel
theorem dX7_turn_28 : decode cX7_turn 28 = .ok (.invokevirtual 95, 3) := by decide +kernel
theorem dX7_turn_31 : decode cX7_turn 31 = .ok (.ireturn, 1) := by decide +kernel
theorem dX7_as_0 : decode cX7_as 0 = .ok (.aload_n 0, 1) := by decide +kernel
theorem dX7_as_1 : decode cX7_as 1 = .ok (.getfield 10, 3) := by decide +kernel
theorem dX7_as_4 : decode cX7_as 4 = .ok (.iload_n 1, 1) := by decide +kernel
theorem dX7_as_5 : decode cX7_as 5 = .ok (.invokevirtual 67, 3) := by decide +kernel
theorem dX7_as_8 : decode cX7_as 8 = .ok (.ifCond .eq 10, 3) := by decide +kernel
theorem dX7_as_11 : decode cX7_as 11 = .ok (.iload_n 2, 1) := by decide +kernel
theorem dX7_as_12 : decode cX7_as 12 = .ok (.invokestatic 52, 3) := by decide +kernel
theorem dX7_as_15 : decode cX7_as 15 = .ok (.ifCond .ne 9, 3) := by decide +kernel
theorem dX7_as_18 : decode cX7_as 18 = .ok (.aload_n 0, 1) := by decide +kernel
theorem dX7_as_19 : decode cX7_as 19 = .ok (.iconst 0, 1) := by decide +kernel
theorem dX7_as_20 : decode cX7_as 20 = .ok (.invokevirtual 56, 3) := by decide +kernel
theorem dX7_as_23 : decode cX7_as 23 = .ok (.ireturn, 1) := by decide +kernel
theorem dX7_as_24 : decode cX7_as 24 = .ok (.aload_n 0, 1) := by decide +kernel
theorem dX7_as_25 : decode cX7_as 25 = .ok (.getfield 10, 3) := by decide +kernel
theorem dX7_as_28 : decode cX7_as 28 = .ok (.getfield 70, 3) := by decide +kernel
theorem dX7_as_31 : decode cX7_as 31 = .ok (.iload_n 1, 1) := by decide +kernel
theorem dX7_as_32 : decode cX7_as 32 = .ok (.iaload, 1) := by decide +kernel
theorem dX7_as_33 : decode cX7_as 33 = .ok (.iload_n 2, 1) := by decide +kernel
theorem dX7_as_34 : decode cX7_as 34 = .ok (.invokestatic 100, 3) := by decide +kernel
theorem dX7_as_37 : decode cX7_as 37 = .ok (.ifCond .ne 9, 3) := by decide +kernel
theorem dX7_as_40 : decode cX7_as 40 = .ok (.aload_n 0, 1) := by decide +kernel
theorem dX7_as_41 : decode cX7_as 41 = .ok (.iconst 2, 1) := by decide +kernel
theorem dX7_as_42 : decode cX7_as 42 = .ok (.invokevirtual 56, 3) := by decide +kernel
theorem dX7_as_45 : decode cX7_as 45 = .ok (.ireturn, 1) := by decide +kernel
theorem dX7_as_46 : decode cX7_as 46 = .ok (.aload_n 0, 1) := by decide +kernel
theorem dX7_as_47 : decode cX7_as 47 = .ok (.getfield 10, 3) := by decide +kernel
theorem dX7_as_50 : decode cX7_as 50 = .ok (.getfield 79, 3) := by decide +kernel
theorem dX7_as_53 : decode cX7_as 53 = .ok (.iload_n 1, 1) := by decide +kernel
theorem dX7_as_54 : decode cX7_as 54 = .ok (.iaload, 1) := by decide +kernel
theorem dX7_as_55 : decode cX7_as 55 = .ok (.ireturn, 1) := by decide +kernel
theorem dX7_swap_0 : decode cX7_swap 0 = .ok (.aload_n 0, 1) := by decide +kernel
theorem dX7_swap_1 : decode cX7_swap 1 = .ok (.getfield 10, 3) := by decide +kernel
theorem dX7_swap_4 : decode cX7_swap 4 = .ok (.iload_n 1, 1) := by decide +kernel
theorem dX7_swap_5 : decode cX7_swap 5 = .ok (.invokevirtual 67, 3) := by decide +kernel
theorem dX7_swap_8 : decode cX7_swap 8 = .ok (.ifCond .eq 19, 3) := by decide +kernel
theorem dX7_swap_11 : decode cX7_swap 11 = .ok (.aload_n 0, 1) := by decide +kernel
theorem dX7_swap_12 : decode cX7_swap 12 = .ok (.getfield 10, 3) := by decide +kernel
theorem dX7_swap_15 : decode cX7_swap 15 = .ok (.iload_n 2, 1) := by decide +kernel
theorem dX7_swap_16 : decode cX7_swap 16 = .ok (.invokevirtual 67, 3) := by decide +kernel
theorem dX7_swap_19 : decode cX7_swap 19 = .ok (.ifCond .eq 8, 3) := by decide +kernel
theorem dX7_swap_22 : decode cX7_swap 22 = .ok (.iload_n 1, 1) := by decide +kernel
theorem dX7_swap_23 : decode cX7_swap 23 = .ok (.iload_n 2, 1) := by decide +kernel
theorem dX7_swap_24 : decode cX7_swap 24 = .ok (.if_icmp .ne 9, 3) := by decide +kernel
theorem dX7_swap_27 : decode cX7_swap 27 = .ok (.aload_n 0, 1) := by decide +kernel
theorem dX7_swap_28 : decode cX7_swap 28 = .ok (.iconst 0, 1) := by decide +kernel
theorem dX7_swap_29 : decode cX7_swap 29 = .ok (.invokevirtual 56, 3) := by decide +kernel
theorem dX7_swap_32 : decode cX7_swap 32 = .ok (.ireturn, 1) := by decide +kernel
theorem dX7_swap_33 : decode cX7_swap 33 = .ok (.aload_n 0, 1) := by decide +kernel
theorem dX7_swap_34 : decode cX7_swap 34 = .ok (.getfield 10, 3) := by decide +kernel
theorem dX7_swap_37 : decode cX7_swap 37 = .ok (.iload_n 1, 1) := by decide +kernel
theorem dX7_swap_38 : decode cX7_swap 38 = .ok (.iload_n 2, 1) := by decide +kernel
theorem dX7_swap_39 : decode cX7_swap 39 = .ok (.invokevirtual 106, 3) := by decide +kernel
theorem dX7_swap_42 : decode cX7_swap 42 = .ok (.ifCond .ne 9, 3) := by decide +kernel
theorem dX7_swap_45 : decode cX7_swap 45 = .ok (.aload_n 0, 1) := by decide +kernel
theorem dX7_swap_46 : decode cX7_swap 46 = .ok (.iconst 4, 1) := by decide +kernel
theorem dX7_swap_47 : decode cX7_swap 47 = .ok (.invokevirtual 56, 3) := by decide +kernel
theorem dX7_swap_50 : decode cX7_swap 50 = .ok (.ireturn, 1) := by decide +kernel
theorem dX7_swap_51 : decode cX7_swap 51 = .ok (.aload_n 0, 1) := by decide +kernel
theorem dX7_swap_52 : decode cX7_swap 52 = .ok (.getfield 10, 3) := by decide +kernel
theorem dX7_swap_55 : decode cX7_swap 55 = .ok (.iload_n 1, 1) := by decide +kernel
theorem dX7_swap_56 : decode cX7_swap 56 = .ok (.iload_n 2, 1) := by decide +kernel
theorem dX7_swap_57 : decode cX7_swap 57 = .ok (.invokevirtual 109, 3) := by decide +kernel
theorem dX7_swap_60 : decode cX7_swap 60 = .ok (.aload_n 0, 1) := by decide +kernel
theorem dX7_swap_61 : decode cX7_swap 61 = .ok (.getfield 10, 3) := by decide +kernel
theorem dX7_swap_64 : decode cX7_swap 64 = .ok (.invokevirtual 113, 3) := by decide +kernel
theorem dX7_swap_67 : decode cX7_swap 67 = .ok (.ireturn, 1) := by decide +kernel
theorem dX7_home_0 : decode cX7_home 0 = .ok (.aload_n 0, 1) := by decide +kernel
theorem dX7_home_1 : decode cX7_home 1 = .ok (.getfield 10, 3) := by decide +kernel
theorem dX7_home_4 : decode cX7_home 4 = .ok (.getfield 117, 3) := by decide +kernel
theorem dX7_home_7 : decode cX7_home 7 = .ok (.aload_n 0, 1) := by decide +kernel
theorem dX7_home_8 : decode cX7_home 8 = .ok (.getfield 10, 3) := by decide +kernel
theorem dX7_home_11 : decode cX7_home 11 = .ok (.invokevirtual 113, 3) := by decide +kernel
theorem dX7_home_14 : decode cX7_home 14 = .ok (.isub, 1) := by decide +kernel
theorem dX7_home_15 : decode cX7_home 15 = .ok (.istore_n 1, 1) := by decide +kernel
theorem dX7_home_16 : decode cX7_home 16 = .ok (.aload_n 0, 1) := by decide +kernel
theorem dX7_home_17 : decode cX7_home 17 = .ok (.getfield 10, 3) := by decide +kernel
theorem dX7_home_20 : decode cX7_home 20 = .ok (.invokevirtual 121, 3) := by decide +kernel
theorem dX7_home_23 : decode cX7_home 23 = .ok (.iload_n 1, 1) := by decide +kernel
theorem dX7_home_24 : decode cX7_home 24 = .ok (.ireturn, 1) := by decide +kernel
theorem dX7_draw_0 : decode cX7_draw 0 = .ok (.aload_n 0, 1) := by decide +kernel
theorem dX7_draw_1 : decode cX7_draw 1 = .ok (.getfield 10, 3) := by decide +kernel
theorem dX7_draw_4 : decode cX7_draw 4 = .ok (.invokevirtual 124, 3) := by decide +kernel
theorem dX7_draw_7 : decode cX7_draw 7 = .ok (.aload_n 0, 1) := by decide +kernel
theorem dX7_draw_8 : decode cX7_draw 8 = .ok (.getfield 10, 3) := by decide +kernel
theorem dX7_draw_11 : decode cX7_draw 11 = .ok (.invokevirtual 113, 3) := by decide +kernel
theorem dX7_draw_14 : decode cX7_draw 14 = .ok (.ireturn, 1) := by decide +kernel
theorem dX7_seed_0 : decode cX7_seed 0 = .ok (.aload_n 0, 1) := by decide +kernel
theorem dX7_seed_1 : decode cX7_seed 1 = .ok (.getfield 10, 3) := by decide +kernel
theorem dX7_seed_4 : decode cX7_seed 4 = .ok (.getfield 127, 3) := by decide +kernel
theorem dX7_seed_7 : decode cX7_seed 7 = .ok (.istore_n 2, 1) := by decide +kernel
theorem dX7_seed_8 : decode cX7_seed 8 = .ok (.aload_n 0, 1) := by decide +kernel
theorem dX7_seed_9 : decode cX7_seed 9 = .ok (.getfield 10, 3) := by decide +kernel
theorem dX7_seed_12 : decode cX7_seed 12 = .ok (.iload_n 1, 1) := by decide +kernel
theorem dX7_seed_13 : decode cX7_seed 13 = .ok (.putfield 127, 3) := by decide +kernel
theorem dX7_seed_16 : decode cX7_seed 16 = .ok (.iload_n 2, 1) := by decide +kernel
theorem dX7_seed_17 : decode cX7_seed 17 = .ok (.ireturn, 1) := by decide +kernel
theorem dX7_fridays_0 : decode cX7_fridays 0 = .ok (.iload_n 1, 1) := by decide +kernel
theorem dX7_fridays_1 : decode cX7_fridays 1 = .ok (.iconst 1, 1) := by decide +kernel
theorem dX7_fridays_2 : decode cX7_fridays 2 = .ok (.if_icmp .lt 9, 3) := by decide +kernel
theorem dX7_fridays_5 : decode cX7_fridays 5 = .ok (.iload_n 1, 1) := by decide +kernel
theorem dX7_fridays_6 : decode cX7_fridays 6 = .ok (.bipush 60, 2) := by decide +kernel
theorem dX7_fridays_8 : decode cX7_fridays 8 = .ok (.if_icmp .le 9, 3) := by decide +kernel
theorem dX7_fridays_11 : decode cX7_fridays 11 = .ok (.aload_n 0, 1) := by decide +kernel
theorem dX7_fridays_12 : decode cX7_fridays 12 = .ok (.iconst 0, 1) := by decide +kernel
theorem dX7_fridays_13 : decode cX7_fridays 13 = .ok (.invokevirtual 56, 3) := by decide +kernel
theorem dX7_fridays_16 : decode cX7_fridays 16 = .ok (.ireturn, 1) := by decide +kernel
theorem dX7_fridays_17 : decode cX7_fridays 17 = .ok (.aload_n 0, 1) := by decide +kernel
theorem dX7_fridays_18 : decode cX7_fridays 18 = .ok (.getfield 10, 3) := by decide +kernel
theorem dX7_fridays_21 : decode cX7_fridays 21 = .ok (.getfield 130, 3) := by decide +kernel
theorem dX7_fridays_24 : decode cX7_fridays 24 = .ok (.iload_n 1, 1) := by decide +kernel
theorem dX7_fridays_25 : decode cX7_fridays 25 = .ok (.iadd, 1) := by decide +kernel
theorem dX7_fridays_26 : decode cX7_fridays 26 = .ok (.sipush 9999, 3) := by decide +kernel
theorem dX7_fridays_29 : decode cX7_fridays 29 = .ok (.if_icmp .le 9, 3) := by decide +kernel
theorem dX7_fridays_32 : decode cX7_fridays 32 = .ok (.aload_n 0, 1) := by decide +kernel
theorem dX7_fridays_33 : decode cX7_fridays 33 = .ok (.iconst 4, 1) := by decide +kernel
theorem dX7_fridays_34 : decode cX7_fridays 34 = .ok (.invokevirtual 56, 3) := by decide +kernel
theorem dX7_fridays_37 : decode cX7_fridays 37 = .ok (.ireturn, 1) := by decide +kernel
theorem dX7_fridays_38 : decode cX7_fridays 38 = .ok (.aload_n 0, 1) := by decide +kernel
theorem dX7_fridays_39 : decode cX7_fridays 39 = .ok (.getfield 10, 3) := by decide +kernel
theorem dX7_fridays_42 : decode cX7_fridays 42 = .ok (.iload_n 1, 1) := by decide +kernel
theorem dX7_fridays_43 : decode cX7_fridays 43 = .ok (.invokevirtual 133, 3) := by decide +kernel
theorem dX7_fridays_46 : decode cX7_fridays 46 = .ok (.aload_n 0, 1) := by decide +kernel
theorem dX7_fridays_47 : decode cX7_fridays 47 = .ok (.getfield 10, 3) := by decide +kernel
theorem dX7_fridays_50 : decode cX7_fridays 50 = .ok (.aload_n 0, 1) := by decide +kernel
theorem dX7_fridays_51 : decode cX7_fridays 51 = .ok (.getfield 10, 3) := by decide +kernel
theorem dX7_fridays_54 : decode cX7_fridays 54 = .ok (.getfield 76, 3) := by decide +kernel
theorem dX7_fridays_57 : decode cX7_fridays 57 = .ok (.invokevirtual 137, 3) := by decide +kernel
theorem dX7_fridays_60 : decode cX7_fridays 60 = .ok (.ireturn, 1) := by decide +kernel
theorem dX7_season_0 : decode cX7_season 0 = .ok (.iload_n 1, 1) := by decide +kernel
theorem dX7_season_1 : decode cX7_season 1 = .ok (.iconst 1, 1) := by decide +kernel
theorem dX7_season_2 : decode cX7_season 2 = .ok (.if_icmp .lt 9, 3) := by decide +kernel
theorem dX7_season_5 : decode cX7_season 5 = .ok (.iload_n 1, 1) := by decide +kernel
theorem dX7_season_6 : decode cX7_season 6 = .ok (.bipush 20, 2) := by decide +kernel
theorem dX7_season_8 : decode cX7_season 8 = .ok (.if_icmp .le 9, 3) := by decide +kernel
theorem dX7_season_11 : decode cX7_season 11 = .ok (.aload_n 0, 1) := by decide +kernel
theorem dX7_season_12 : decode cX7_season 12 = .ok (.iconst 0, 1) := by decide +kernel
theorem dX7_season_13 : decode cX7_season 13 = .ok (.invokevirtual 56, 3) := by decide +kernel
theorem dX7_season_16 : decode cX7_season 16 = .ok (.ireturn, 1) := by decide +kernel
theorem dX7_season_17 : decode cX7_season 17 = .ok (.aload_n 0, 1) := by decide +kernel
theorem dX7_season_18 : decode cX7_season 18 = .ok (.getfield 10, 3) := by decide +kernel
theorem dX7_season_21 : decode cX7_season 21 = .ok (.getfield 130, 3) := by decide +kernel
theorem dX7_season_24 : decode cX7_season 24 = .ok (.iload_n 1, 1) := by decide +kernel
theorem dX7_season_25 : decode cX7_season 25 = .ok (.iadd, 1) := by decide +kernel
theorem dX7_season_26 : decode cX7_season 26 = .ok (.sipush 9999, 3) := by decide +kernel
theorem dX7_season_29 : decode cX7_season 29 = .ok (.if_icmp .le 9, 3) := by decide +kernel
theorem dX7_season_32 : decode cX7_season 32 = .ok (.aload_n 0, 1) := by decide +kernel
theorem dX7_season_33 : decode cX7_season 33 = .ok (.iconst 4, 1) := by decide +kernel
theorem dX7_season_34 : decode cX7_season 34 = .ok (.invokevirtual 56, 3) := by decide +kernel
theorem dX7_season_37 : decode cX7_season 37 = .ok (.ireturn, 1) := by decide +kernel
theorem dX7_season_38 : decode cX7_season 38 = .ok (.iconst 0, 1) := by decide +kernel
theorem dX7_season_39 : decode cX7_season 39 = .ok (.istore_n 2, 1) := by decide +kernel
theorem dX7_season_40 : decode cX7_season 40 = .ok (.iload_n 2, 1) := by decide +kernel
theorem dX7_season_41 : decode cX7_season 41 = .ok (.iload_n 1, 1) := by decide +kernel
theorem dX7_season_42 : decode cX7_season 42 = .ok (.if_icmp .ge 23, 3) := by decide +kernel
theorem dX7_season_45 : decode cX7_season 45 = .ok (.aload_n 0, 1) := by decide +kernel
theorem dX7_season_46 : decode cX7_season 46 = .ok (.getfield 10, 3) := by decide +kernel
theorem dX7_season_49 : decode cX7_season 49 = .ok (.invokevirtual 124, 3) := by decide +kernel
theorem dX7_season_52 : decode cX7_season 52 = .ok (.aload_n 0, 1) := by decide +kernel
theorem dX7_season_53 : decode cX7_season 53 = .ok (.getfield 10, 3) := by decide +kernel
theorem dX7_season_56 : decode cX7_season 56 = .ok (.invokevirtual 141, 3) := by decide +kernel
theorem dX7_season_59 : decode cX7_season 59 = .ok (.iinc 2 1, 3) := by decide +kernel
theorem dX7_season_62 : decode cX7_season 62 = .ok (.goto (-22), 3) := by decide +kernel
theorem dX7_season_65 : decode cX7_season 65 = .ok (.aload_n 0, 1) := by decide +kernel
theorem dX7_season_66 : decode cX7_season 66 = .ok (.getfield 10, 3) := by decide +kernel
theorem dX7_season_69 : decode cX7_season 69 = .ok (.aload_n 0, 1) := by decide +kernel
theorem dX7_season_70 : decode cX7_season 70 = .ok (.getfield 10, 3) := by decide +kernel
theorem dX7_season_73 : decode cX7_season 73 = .ok (.getfield 76, 3) := by decide +kernel
theorem dX7_season_76 : decode cX7_season 76 = .ok (.invokevirtual 137, 3) := by decide +kernel
theorem dX7_season_79 : decode cX7_season 79 = .ok (.ireturn, 1) := by decide +kernel
theorem dX7_now_0 : decode cX7_now 0 = .ok (.iload_n 1, 1) := by decide +kernel
theorem dX7_now_1 : decode cX7_now 1 = .ok (.tableswitch 121 0 6 #[43, 51, 66, 74, 82, 90, 106], 43) := by decide +kernel
theorem dX7_now_44 : decode cX7_now 44 = .ok (.aload_n 0, 1) := by decide +kernel
theorem dX7_now_45 : decode cX7_now 45 = .ok (.getfield 10, 3) := by decide +kernel
theorem dX7_now_48 : decode cX7_now 48 = .ok (.getfield 130, 3) := by decide +kernel
theorem dX7_now_51 : decode cX7_now 51 = .ok (.ireturn, 1) := by decide +kernel
theorem dX7_now_52 : decode cX7_now 52 = .ok (.aload_n 0, 1) := by decide +kernel
theorem dX7_now_53 : decode cX7_now 53 = .ok (.getfield 10, 3) := by decide +kernel
theorem dX7_now_56 : decode cX7_now 56 = .ok (.aload_n 0, 1) := by decide +kernel
theorem dX7_now_57 : decode cX7_now 57 = .ok (.getfield 10, 3) := by decide +kernel
theorem dX7_now_60 : decode cX7_now 60 = .ok (.getfield 76, 3) := by decide +kernel
theorem dX7_now_63 : decode cX7_now 63 = .ok (.invokevirtual 137, 3) := by decide +kernel
theorem dX7_now_66 : decode cX7_now 66 = .ok (.ireturn, 1) := by decide +kernel
theorem dX7_now_67 : decode cX7_now 67 = .ok (.aload_n 0, 1) := by decide +kernel
theorem dX7_now_68 : decode cX7_now 68 = .ok (.getfield 10, 3) := by decide +kernel
theorem dX7_now_71 : decode cX7_now 71 = .ok (.invokevirtual 144, 3) := by decide +kernel
theorem dX7_now_74 : decode cX7_now 74 = .ok (.ireturn, 1) := by decide +kernel
theorem dX7_now_75 : decode cX7_now 75 = .ok (.aload_n 0, 1) := by decide +kernel
theorem dX7_now_76 : decode cX7_now 76 = .ok (.getfield 10, 3) := by decide +kernel
theorem dX7_now_79 : decode cX7_now 79 = .ok (.invokevirtual 147, 3) := by decide +kernel
theorem dX7_now_82 : decode cX7_now 82 = .ok (.ireturn, 1) := by decide +kernel
theorem dX7_now_83 : decode cX7_now 83 = .ok (.aload_n 0, 1) := by decide +kernel
theorem dX7_now_84 : decode cX7_now 84 = .ok (.getfield 10, 3) := by decide +kernel
theorem dX7_now_87 : decode cX7_now 87 = .ok (.invokevirtual 150, 3) := by decide +kernel
theorem dX7_now_90 : decode cX7_now 90 = .ok (.ireturn, 1) := by decide +kernel
theorem dX7_now_91 : decode cX7_now 91 = .ok (.aload_n 0, 1) := by decide +kernel
theorem dX7_now_92 : decode cX7_now 92 = .ok (.getfield 10, 3) := by decide +kernel
theorem dX7_now_95 : decode cX7_now 95 = .ok (.invokevirtual 153, 3) := by decide +kernel
theorem dX7_now_98 : decode cX7_now 98 = .ok (.ifCond .eq 7, 3) := by decide +kernel
theorem dX7_now_101 : decode cX7_now 101 = .ok (.iconst 1, 1) := by decide +kernel
theorem dX7_now_102 : decode cX7_now 102 = .ok (.goto 4, 3) := by decide +kernel
theorem dX7_now_105 : decode cX7_now 105 = .ok (.iconst 0, 1) := by decide +kernel
theorem dX7_now_106 : decode cX7_now 106 = .ok (.ireturn, 1) := by decide +kernel
theorem dX7_now_107 : decode cX7_now 107 = .ok (.aload_n 0, 1) := by decide +kernel
theorem dX7_now_108 : decode cX7_now 108 = .ok (.getfield 10, 3) := by decide +kernel
theorem dX7_now_111 : decode cX7_now 111 = .ok (.aload_n 0, 1) := by decide +kernel
theorem dX7_now_112 : decode cX7_now 112 = .ok (.getfield 10, 3) := by decide +kernel
theorem dX7_now_115 : decode cX7_now 115 = .ok (.getfield 82, 3) := by decide +kernel
theorem dX7_now_118 : decode cX7_now 118 = .ok (.invokevirtual 137, 3) := by decide +kernel
theorem dX7_now_121 : decode cX7_now 121 = .ok (.ireturn, 1) := by decide +kernel
theorem dX7_now_122 : decode cX7_now 122 = .ok (.aload_n 0, 1) := by decide +kernel
theorem dX7_now_123 : decode cX7_now 123 = .ok (.iconst 0, 1) := by decide +kernel
theorem dX7_now_124 : decode cX7_now 124 = .ok (.invokevirtual 56, 3) := by decide +kernel
theorem dX7_now_127 : decode cX7_now 127 = .ok (.ireturn, 1) := by decide +kernel
theorem dX7_who_0 : decode cX7_who 0 = .ok (.aload_n 0, 1) := by decide +kernel
theorem dX7_who_1 : decode cX7_who 1 = .ok (.getfield 10, 3) := by decide +kernel
theorem dX7_who_4 : decode cX7_who 4 = .ok (.iload_n 1, 1) := by decide +kernel
theorem dX7_who_5 : decode cX7_who 5 = .ok (.invokevirtual 67, 3) := by decide +kernel
theorem dX7_who_8 : decode cX7_who 8 = .ok (.ifCond .ne 9, 3) := by decide +kernel
theorem dX7_who_11 : decode cX7_who 11 = .ok (.aload_n 0, 1) := by decide +kernel
theorem dX7_who_12 : decode cX7_who 12 = .ok (.iconst 0, 1) := by decide +kernel
theorem dX7_who_13 : decode cX7_who 13 = .ok (.invokevirtual 56, 3) := by decide +kernel
theorem dX7_who_16 : decode cX7_who 16 = .ok (.ireturn, 1) := by decide +kernel
theorem dX7_who_17 : decode cX7_who 17 = .ok (.aload_n 0, 1) := by decide +kernel
theorem dX7_who_18 : decode cX7_who 18 = .ok (.getfield 10, 3) := by decide +kernel
theorem dX7_who_21 : decode cX7_who 21 = .ok (.iload_n 1, 1) := by decide +kernel
theorem dX7_who_22 : decode cX7_who 22 = .ok (.invokevirtual 156, 3) := by decide +kernel
theorem dX7_who_25 : decode cX7_who 25 = .ok (.ireturn, 1) := by decide +kernel
theorem dX7_ring_0 : decode cX7_ring 0 = .ok (.aload_n 0, 1) := by decide +kernel
theorem dX7_ring_1 : decode cX7_ring 1 = .ok (.getfield 10, 3) := by decide +kernel
theorem dX7_ring_4 : decode cX7_ring 4 = .ok (.iload_n 1, 1) := by decide +kernel
theorem dX7_ring_5 : decode cX7_ring 5 = .ok (.invokevirtual 67, 3) := by decide +kernel
theorem dX7_ring_8 : decode cX7_ring 8 = .ok (.ifCond .ne 9, 3) := by decide +kernel
theorem dX7_ring_11 : decode cX7_ring 11 = .ok (.aload_n 0, 1) := by decide +kernel
theorem dX7_ring_12 : decode cX7_ring 12 = .ok (.iconst 0, 1) := by decide +kernel
theorem dX7_ring_13 : decode cX7_ring 13 = .ok (.invokevirtual 56, 3) := by decide +kernel
theorem dX7_ring_16 : decode cX7_ring 16 = .ok (.ireturn, 1) := by decide +kernel
theorem dX7_ring_17 : decode cX7_ring 17 = .ok (.aload_n 0, 1) := by decide +kernel
theorem dX7_ring_18 : decode cX7_ring 18 = .ok (.getfield 10, 3) := by decide +kernel
theorem dX7_ring_21 : decode cX7_ring 21 = .ok (.iload_n 1, 1) := by decide +kernel
theorem dX7_ring_22 : decode cX7_ring 22 = .ok (.invokevirtual 159, 3) := by decide +kernel
theorem dX7_ring_25 : decode cX7_ring 25 = .ok (.ireturn, 1) := by decide +kernel
theorem dX7_rings_0 : decode cX7_rings 0 = .ok (.iconst 0, 1) := by decide +kernel
theorem dX7_rings_1 : decode cX7_rings 1 = .ok (.istore_n 1, 1) := by decide +kernel
theorem dX7_rings_2 : decode cX7_rings 2 = .ok (.iconst 0, 1) := by decide +kernel
theorem dX7_rings_3 : decode cX7_rings 3 = .ok (.istore_n 2, 1) := by decide +kernel
theorem dX7_rings_4 : decode cX7_rings 4 = .ok (.iconst 0, 1) := by decide +kernel
theorem dX7_rings_5 : decode cX7_rings 5 = .ok (.istore_n 3, 1) := by decide +kernel
theorem dX7_rings_6 : decode cX7_rings 6 = .ok (.iload_n 3, 1) := by decide +kernel
theorem dX7_rings_7 : decode cX7_rings 7 = .ok (.aload_n 0, 1) := by decide +kernel
theorem dX7_rings_8 : decode cX7_rings 8 = .ok (.getfield 10, 3) := by decide +kernel
theorem dX7_rings_11 : decode cX7_rings 11 = .ok (.getfield 117, 3) := by decide +kernel
theorem dX7_rings_14 : decode cX7_rings 14 = .ok (.if_icmp .ge 31, 3) := by decide +kernel
theorem dX7_rings_17 : decode cX7_rings 17 = .ok (.iload_n 1, 1) := by decide +kernel
theorem dX7_rings_18 : decode cX7_rings 18 = .ok (.iload_n 3, 1) := by decide +kernel
theorem dX7_rings_19 : decode cX7_rings 19 = .ok (.ishr, 1) := by decide +kernel
theorem dX7_rings_20 : decode cX7_rings 20 = .ok (.iconst 1, 1) := by decide +kernel
theorem dX7_rings_21 : decode cX7_rings 21 = .ok (.iand, 1) := by decide +kernel
theorem dX7_rings_22 : decode cX7_rings 22 = .ok (.ifCond .ne 17, 3) := by decide +kernel
theorem dX7_rings_25 : decode cX7_rings 25 = .ok (.iload_n 1, 1) := by decide +kernel
theorem dX7_rings_26 : decode cX7_rings 26 = .ok (.aload_n 0, 1) := by decide +kernel
theorem dX7_rings_27 : decode cX7_rings 27 = .ok (.getfield 10, 3) := by decide +kernel
theorem dX7_rings_30 : decode cX7_rings 30 = .ok (.iload_n 3, 1) := by decide +kernel
theorem dX7_rings_31 : decode cX7_rings 31 = .ok (.invokevirtual 159, 3) := by decide +kernel
theorem dX7_rings_34 : decode cX7_rings 34 = .ok (.ior, 1) := by decide +kernel
theorem dX7_rings_35 : decode cX7_rings 35 = .ok (.istore_n 1, 1) := by decide +kernel
theorem dX7_rings_36 : decode cX7_rings 36 = .ok (.iinc 2 1, 3) := by decide +kernel
theorem dX7_rings_39 : decode cX7_rings 39 = .ok (.iinc 3 1, 3) := by decide +kernel
theorem dX7_rings_42 : decode cX7_rings 42 = .ok (.goto (-36), 3) := by decide +kernel
theorem dX7_rings_45 : decode cX7_rings 45 = .ok (.iload_n 2, 1) := by decide +kernel
theorem dX7_rings_46 : decode cX7_rings 46 = .ok (.ireturn, 1) := by decide +kernel
theorem dX7_pairs_0 : decode cX7_pairs 0 = .ok (.iconst 0, 1) := by decide +kernel
theorem dX7_pairs_1 : decode cX7_pairs 1 = .ok (.istore_n 1, 1) := by decide +kernel
theorem dX7_pairs_2 : decode cX7_pairs 2 = .ok (.iconst 0, 1) := by decide +kernel
theorem dX7_pairs_3 : decode cX7_pairs 3 = .ok (.istore_n 2, 1) := by decide +kernel
theorem dX7_pairs_4 : decode cX7_pairs 4 = .ok (.iload_n 2, 1) := by decide +kernel
theorem dX7_pairs_5 : decode cX7_pairs 5 = .ok (.aload_n 0, 1) := by decide +kernel
theorem dX7_pairs_6 : decode cX7_pairs 6 = .ok (.getfield 10, 3) := by decide +kernel
theorem dX7_pairs_9 : decode cX7_pairs 9 = .ok (.getfield 117, 3) := by decide +kernel
theorem dX7_pairs_12 : decode cX7_pairs 12 = .ok (.if_icmp .ge 40, 3) := by decide +kernel
theorem dX7_pairs_15 : decode cX7_pairs 15 = .ok (.aload_n 0, 1) := by decide +kernel
theorem dX7_pairs_16 : decode cX7_pairs 16 = .ok (.getfield 10, 3) := by decide +kernel
theorem dX7_pairs_19 : decode cX7_pairs 19 = .ok (.getfield 85, 3) := by decide +kernel
theorem dX7_pairs_22 : decode cX7_pairs 22 = .ok (.iload_n 2, 1) := by decide +kernel
theorem dX7_pairs_23 : decode cX7_pairs 23 = .ok (.iaload, 1) := by decide +kernel
theorem dX7_pairs_24 : decode cX7_pairs 24 = .ok (.istore_n 3, 1) := by decide +kernel
theorem dX7_pairs_25 : decode cX7_pairs 25 = .ok (.iload_n 3, 1) := by decide +kernel
theorem dX7_pairs_26 : decode cX7_pairs 26 = .ok (.iload_n 2, 1) := by decide +kernel
theorem dX7_pairs_27 : decode cX7_pairs 27 = .ok (.if_icmp .le 19, 3) := by decide +kernel
theorem dX7_pairs_30 : decode cX7_pairs 30 = .ok (.aload_n 0, 1) := by decide +kernel
theorem dX7_pairs_31 : decode cX7_pairs 31 = .ok (.getfield 10, 3) := by decide +kernel
theorem dX7_pairs_34 : decode cX7_pairs 34 = .ok (.getfield 85, 3) := by decide +kernel
theorem dX7_pairs_37 : decode cX7_pairs 37 = .ok (.iload_n 3, 1) := by decide +kernel
theorem dX7_pairs_38 : decode cX7_pairs 38 = .ok (.iaload, 1) := by decide +kernel
theorem dX7_pairs_39 : decode cX7_pairs 39 = .ok (.iload_n 2, 1) := by decide +kernel
theorem dX7_pairs_40 : decode cX7_pairs 40 = .ok (.if_icmp .ne 6, 3) := by decide +kernel
theorem dX7_pairs_43 : decode cX7_pairs 43 = .ok (.iinc 1 1, 3) := by decide +kernel
theorem dX7_pairs_46 : decode cX7_pairs 46 = .ok (.iinc 2 1, 3) := by decide +kernel
theorem dX7_pairs_49 : decode cX7_pairs 49 = .ok (.goto (-45), 3) := by decide +kernel
theorem dX7_pairs_52 : decode cX7_pairs 52 = .ok (.iload_n 1, 1) := by decide +kernel
theorem dX7_pairs_53 : decode cX7_pairs 53 = .ok (.ireturn, 1) := by decide +kernel
theorem dX7_on_0 : decode cX7_on 0 = .ok (.aload_n 0, 1) := by decide +kernel
theorem dX7_on_1 : decode cX7_on 1 = .ok (.getfield 10, 3) := by decide +kernel
theorem dX7_on_4 : decode cX7_on 4 = .ok (.iload_n 1, 1) := by decide +kernel
theorem dX7_on_5 : decode cX7_on 5 = .ok (.invokevirtual 67, 3) := by decide +kernel
theorem dX7_on_8 : decode cX7_on 8 = .ok (.ifCond .eq 22, 3) := by decide +kernel
theorem dX7_on_11 : decode cX7_on 11 = .ok (.iload_n 2, 1) := by decide +kernel
theorem dX7_on_12 : decode cX7_on 12 = .ok (.ifCond .lt 18, 3) := by decide +kernel
theorem dX7_on_15 : decode cX7_on 15 = .ok (.iload_n 2, 1) := by decide +kernel
theorem dX7_on_16 : decode cX7_on 16 = .ok (.bipush 60, 2) := by decide +kernel
theorem dX7_on_18 : decode cX7_on 18 = .ok (.if_icmp .gt 12, 3) := by decide +kernel
theorem dX7_on_21 : decode cX7_on 21 = .ok (.iload_n 3, 1) := by decide +kernel
theorem dX7_on_22 : decode cX7_on 22 = .ok (.ifCond .lt 8, 3) := by decide +kernel
theorem dX7_on_25 : decode cX7_on 25 = .ok (.iload_n 3, 1) := by decide +kernel
theorem dX7_on_26 : decode cX7_on 26 = .ok (.iconst 2, 1) := by decide +kernel
theorem dX7_on_27 : decode cX7_on 27 = .ok (.if_icmp .le 9, 3) := by decide +kernel
theorem dX7_on_30 : decode cX7_on 30 = .ok (.aload_n 0, 1) := by decide +kernel
theorem dX7_on_31 : decode cX7_on 31 = .ok (.iconst 0, 1) := by decide +kernel
theorem dX7_on_32 : decode cX7_on 32 = .ok (.invokevirtual 56, 3) := by decide +kernel
theorem dX7_on_35 : decode cX7_on 35 = .ok (.ireturn, 1) := by decide +kernel
theorem dX7_on_36 : decode cX7_on 36 = .ok (.aload_n 0, 1) := by decide +kernel
theorem dX7_on_37 : decode cX7_on 37 = .ok (.getfield 19, 3) := by decide +kernel
theorem dX7_on_40 : decode cX7_on 40 = .ok (.aload_n 0, 1) := by decide +kernel
theorem dX7_on_41 : decode cX7_on 41 = .ok (.getfield 10, 3) := by decide +kernel
theorem dX7_on_44 : decode cX7_on 44 = .ok (.invokevirtual 162, 3) := by decide +kernel
theorem dX7_on_47 : decode cX7_on 47 = .ok (.aload_n 0, 1) := by decide +kernel
theorem dX7_on_48 : decode cX7_on 48 = .ok (.getfield 19, 3) := by decide +kernel
theorem dX7_on_51 : decode cX7_on 51 = .ok (.iload_n 2, 1) := by decide +kernel
theorem dX7_on_52 : decode cX7_on 52 = .ok (.invokevirtual 133, 3) := by decide +kernel
theorem dX7_on_55 : decode cX7_on 55 = .ok (.iload_n 3, 1) := by decide +kernel
theorem dX7_on_56 : decode cX7_on 56 = .ok (.lookupswitch 48 #[(0, 28), (1, 38)], 28) := by decide +kernel
theorem dX7_on_84 : decode cX7_on 84 = .ok (.aload_n 0, 1) := by decide +kernel
theorem dX7_on_85 : decode cX7_on 85 = .ok (.getfield 19, 3) := by decide +kernel
theorem dX7_on_88 : decode cX7_on 88 = .ok (.getfield 76, 3) := by decide +kernel
theorem dX7_on_91 : decode cX7_on 91 = .ok (.iload_n 1, 1) := by decide +kernel
theorem dX7_on_92 : decode cX7_on 92 = .ok (.iaload, 1) := by decide +kernel
theorem dX7_on_93 : decode cX7_on 93 = .ok (.ireturn, 1) := by decide +kernel
theorem dX7_on_94 : decode cX7_on 94 = .ok (.aload_n 0, 1) := by decide +kernel
theorem dX7_on_95 : decode cX7_on 95 = .ok (.getfield 19, 3) := by decide +kernel
theorem dX7_on_98 : decode cX7_on 98 = .ok (.getfield 79, 3) := by decide +kernel
theorem dX7_on_101 : decode cX7_on 101 = .ok (.iload_n 1, 1) := by decide +kernel
theorem dX7_on_102 : decode cX7_on 102 = .ok (.iaload, 1) := by decide +kernel
theorem dX7_on_103 : decode cX7_on 103 = .ok (.ireturn, 1) := by decide +kernel
theorem dX7_on_104 : decode cX7_on 104 = .ok (.aload_n 0, 1) := by decide +kernel
theorem dX7_on_105 : decode cX7_on 105 = .ok (.getfield 19, 3) := by decide +kernel
theorem dX7_on_108 : decode cX7_on 108 = .ok (.getfield 82, 3) := by decide +kernel
theorem dX7_on_111 : decode cX7_on 111 = .ok (.iload_n 1, 1) := by decide +kernel
theorem dX7_on_112 : decode cX7_on 112 = .ok (.iaload, 1) := by decide +kernel
theorem dX7_on_113 : decode cX7_on 113 = .ok (.ireturn, 1) := by decide +kernel
theorem dX7_itself_0 : decode cX7_itself 0 = .ok (.aload_n 0, 1) := by decide +kernel
theorem dX7_itself_1 : decode cX7_itself 1 = .ok (.getfield 10, 3) := by decide +kernel
theorem dX7_itself_4 : decode cX7_itself 4 = .ok (.iload_n 1, 1) := by decide +kernel
theorem dX7_itself_5 : decode cX7_itself 5 = .ok (.invokevirtual 67, 3) := by decide +kernel
theorem dX7_itself_8 : decode cX7_itself 8 = .ok (.ifCond .ne 9, 3) := by decide +kernel
theorem dX7_itself_11 : decode cX7_itself 11 = .ok (.aload_n 0, 1) := by decide +kernel
theorem dX7_itself_12 : decode cX7_itself 12 = .ok (.iconst 0, 1) := by decide +kernel
theorem dX7_itself_13 : decode cX7_itself 13 = .ok (.invokevirtual 56, 3) := by decide +kernel
theorem dX7_itself_16 : decode cX7_itself 16 = .ok (.ireturn, 1) := by decide +kernel
theorem dX7_itself_17 : decode cX7_itself 17 = .ok (.aload_n 0, 1) := by decide +kernel
theorem dX7_itself_18 : decode cX7_itself 18 = .ok (.getfield 19, 3) := by decide +kernel
theorem dX7_itself_21 : decode cX7_itself 21 = .ok (.aload_n 0, 1) := by decide +kernel
theorem dX7_itself_22 : decode cX7_itself 22 = .ok (.getfield 10, 3) := by decide +kernel
theorem dX7_itself_25 : decode cX7_itself 25 = .ok (.invokevirtual 162, 3) := by decide +kernel
theorem dX7_itself_28 : decode cX7_itself 28 = .ok (.iconst 1, 1) := by decide +kernel
theorem dX7_itself_29 : decode cX7_itself 29 = .ok (.istore_n 2, 1) := by decide +kernel
theorem dX7_itself_30 : decode cX7_itself 30 = .ok (.iload_n 2, 1) := by decide +kernel
theorem dX7_itself_31 : decode cX7_itself 31 = .ok (.bipush 60, 2) := by decide +kernel
theorem dX7_itself_33 : decode cX7_itself 33 = .ok (.if_icmp .gt 31, 3) := by decide +kernel
theorem dX7_itself_36 : decode cX7_itself 36 = .ok (.aload_n 0, 1) := by decide +kernel
theorem dX7_itself_37 : decode cX7_itself 37 = .ok (.getfield 19, 3) := by decide +kernel
theorem dX7_itself_40 : decode cX7_itself 40 = .ok (.invokevirtual 124, 3) := by decide +kernel
theorem dX7_itself_43 : decode cX7_itself 43 = .ok (.aload_n 0, 1) := by decide +kernel
theorem dX7_itself_44 : decode cX7_itself 44 = .ok (.getfield 19, 3) := by decide +kernel
theorem dX7_itself_47 : decode cX7_itself 47 = .ok (.getfield 85, 3) := by decide +kernel
theorem dX7_itself_50 : decode cX7_itself 50 = .ok (.iload_n 1, 1) := by decide +kernel
theorem dX7_itself_51 : decode cX7_itself 51 = .ok (.iaload, 1) := by decide +kernel
theorem dX7_itself_52 : decode cX7_itself 52 = .ok (.iload_n 1, 1) := by decide +kernel
theorem dX7_itself_53 : decode cX7_itself 53 = .ok (.if_icmp .ne 5, 3) := by decide +kernel
theorem dX7_itself_56 : decode cX7_itself 56 = .ok (.iload_n 2, 1) := by decide +kernel
theorem dX7_itself_57 : decode cX7_itself 57 = .ok (.ireturn, 1) := by decide +kernel
theorem dX7_itself_58 : decode cX7_itself 58 = .ok (.iinc 2 1, 3) := by decide +kernel
theorem dX7_itself_61 : decode cX7_itself 61 = .ok (.goto (-31), 3) := by decide +kernel
theorem dX7_itself_64 : decode cX7_itself 64 = .ok (.aload_n 0, 1) := by decide +kernel
theorem dX7_itself_65 : decode cX7_itself 65 = .ok (.iconst 3, 1) := by decide +kernel
theorem dX7_itself_66 : decode cX7_itself 66 = .ok (.invokevirtual 56, 3) := by decide +kernel
theorem dX7_itself_69 : decode cX7_itself 69 = .ok (.ireturn, 1) := by decide +kernel
theorem dX7_most_0 : decode cX7_most 0 = .ok (.aload_n 0, 1) := by decide +kernel
theorem dX7_most_1 : decode cX7_most 1 = .ok (.getfield 25, 3) := by decide +kernel
theorem dX7_most_4 : decode cX7_most 4 = .ok (.aload_n 0, 1) := by decide +kernel
theorem dX7_most_5 : decode cX7_most 5 = .ok (.getfield 10, 3) := by decide +kernel
theorem dX7_most_8 : decode cX7_most 8 = .ok (.invokevirtual 166, 3) := by decide +kernel
theorem dX7_most_11 : decode cX7_most 11 = .ok (.ireturn, 1) := by decide +kernel
theorem dX7_slip_0 : decode cX7_slip 0 = .ok (.aload_n 0, 1) := by decide +kernel
theorem dX7_slip_1 : decode cX7_slip 1 = .ok (.getfield 10, 3) := by decide +kernel
theorem dX7_slip_4 : decode cX7_slip 4 = .ok (.iload_n 1, 1) := by decide +kernel
theorem dX7_slip_5 : decode cX7_slip 5 = .ok (.invokevirtual 67, 3) := by decide +kernel
theorem dX7_slip_8 : decode cX7_slip 8 = .ok (.ifCond .ne 9, 3) := by decide +kernel
theorem dX7_slip_11 : decode cX7_slip 11 = .ok (.aload_n 0, 1) := by decide +kernel
theorem dX7_slip_12 : decode cX7_slip 12 = .ok (.iconst 0, 1) := by decide +kernel
theorem dX7_slip_13 : decode cX7_slip 13 = .ok (.invokevirtual 56, 3) := by decide +kernel
theorem dX7_slip_16 : decode cX7_slip 16 = .ok (.ireturn, 1) := by decide +kernel
theorem dX7_slip_17 : decode cX7_slip 17 = .ok (.aload_n 0, 1) := by decide +kernel
theorem dX7_slip_18 : decode cX7_slip 18 = .ok (.getfield 25, 3) := by decide +kernel
theorem dX7_slip_21 : decode cX7_slip 21 = .ok (.aload_n 0, 1) := by decide +kernel
theorem dX7_slip_22 : decode cX7_slip 22 = .ok (.getfield 10, 3) := by decide +kernel
theorem dX7_slip_25 : decode cX7_slip 25 = .ok (.invokevirtual 166, 3) := by decide +kernel
theorem dX7_slip_28 : decode cX7_slip 28 = .ok (.pop, 1) := by decide +kernel
theorem dX7_slip_29 : decode cX7_slip 29 = .ok (.aload_n 0, 1) := by decide +kernel
theorem dX7_slip_30 : decode cX7_slip 30 = .ok (.getfield 25, 3) := by decide +kernel
theorem dX7_slip_33 : decode cX7_slip 33 = .ok (.iload_n 1, 1) := by decide +kernel
theorem dX7_slip_34 : decode cX7_slip 34 = .ok (.aload_n 0, 1) := by decide +kernel
theorem dX7_slip_35 : decode cX7_slip 35 = .ok (.getfield 10, 3) := by decide +kernel
theorem dX7_slip_38 : decode cX7_slip 38 = .ok (.invokevirtual 170, 3) := by decide +kernel
theorem dX7_slip_41 : decode cX7_slip 41 = .ok (.ireturn, 1) := by decide +kernel
theorem dX7_better_0 : decode cX7_better 0 = .ok (.iconst 0, 1) := by decide +kernel
theorem dX7_better_1 : decode cX7_better 1 = .ok (.istore_n 1, 1) := by decide +kernel
theorem dX7_better_2 : decode cX7_better 2 = .ok (.iconst (-1), 1) := by decide +kernel
theorem dX7_better_3 : decode cX7_better 3 = .ok (.istore_n 2, 1) := by decide +kernel
theorem dX7_better_4 : decode cX7_better 4 = .ok (.iconst 0, 1) := by decide +kernel
theorem dX7_better_5 : decode cX7_better 5 = .ok (.istore_n 3, 1) := by decide +kernel
theorem dX7_better_6 : decode cX7_better 6 = .ok (.iload_n 3, 1) := by decide +kernel
theorem dX7_better_7 : decode cX7_better 7 = .ok (.aload_n 0, 1) := by decide +kernel
theorem dX7_better_8 : decode cX7_better 8 = .ok (.getfield 10, 3) := by decide +kernel
theorem dX7_better_11 : decode cX7_better 11 = .ok (.getfield 117, 3) := by decide +kernel
theorem dX7_better_14 : decode cX7_better 14 = .ok (.if_icmp .ge 78, 3) := by decide +kernel
theorem dX7_better_17 : decode cX7_better 17 = .ok (.iload_n 3, 1) := by decide +kernel
theorem dX7_better_18 : decode cX7_better 18 = .ok (.iconst 1, 1) := by decide +kernel
theorem dX7_better_19 : decode cX7_better 19 = .ok (.iadd, 1) := by decide +kernel
theorem dX7_better_20 : decode cX7_better 20 = .ok (.istore 4, 2) := by decide +kernel
theorem dX7_better_22 : decode cX7_better 22 = .ok (.iload 4, 2) := by decide +kernel
theorem dX7_better_24 : decode cX7_better 24 = .ok (.aload_n 0, 1) := by decide +kernel
theorem dX7_better_25 : decode cX7_better 25 = .ok (.getfield 10, 3) := by decide +kernel
theorem dX7_better_28 : decode cX7_better 28 = .ok (.getfield 117, 3) := by decide +kernel
theorem dX7_better_31 : decode cX7_better 31 = .ok (.if_icmp .ge 55, 3) := by decide +kernel
theorem dX7_better_34 : decode cX7_better 34 = .ok (.aload_n 0, 1) := by decide +kernel
theorem dX7_better_35 : decode cX7_better 35 = .ok (.getfield 10, 3) := by decide +kernel
theorem dX7_better_38 : decode cX7_better 38 = .ok (.iload_n 3, 1) := by decide +kernel
theorem dX7_better_39 : decode cX7_better 39 = .ok (.iload 4, 2) := by decide +kernel
theorem dX7_better_41 : decode cX7_better 41 = .ok (.invokevirtual 106, 3) := by decide +kernel
theorem dX7_better_44 : decode cX7_better 44 = .ok (.ifCond .eq 16, 3) := by decide +kernel
theorem dX7_better_47 : decode cX7_better 47 = .ok (.aload_n 0, 1) := by decide +kernel
theorem dX7_better_48 : decode cX7_better 48 = .ok (.getfield 10, 3) := by decide +kernel
theorem dX7_better_51 : decode cX7_better 51 = .ok (.iload_n 3, 1) := by decide +kernel
theorem dX7_better_52 : decode cX7_better 52 = .ok (.iload 4, 2) := by decide +kernel
theorem dX7_better_54 : decode cX7_better 54 = .ok (.invokevirtual 174, 3) := by decide +kernel
theorem dX7_better_57 : decode cX7_better 57 = .ok (.goto 4, 3) := by decide +kernel
theorem dX7_better_60 : decode cX7_better 60 = .ok (.iconst 0, 1) := by decide +kernel
theorem dX7_better_61 : decode cX7_better 61 = .ok (.istore 5, 2) := by decide +kernel
theorem dX7_better_63 : decode cX7_better 63 = .ok (.iload 5, 2) := by decide +kernel
theorem dX7_better_65 : decode cX7_better 65 = .ok (.iload_n 1, 1) := by decide +kernel
theorem dX7_better_66 : decode cX7_better 66 = .ok (.if_icmp .le 14, 3) := by decide +kernel
theorem dX7_better_69 : decode cX7_better 69 = .ok (.iload 5, 2) := by decide +kernel
theorem dX7_better_71 : decode cX7_better 71 = .ok (.istore_n 1, 1) := by decide +kernel
theorem dX7_better_72 : decode cX7_better 72 = .ok (.bipush 10, 2) := by decide +kernel
theorem dX7_better_74 : decode cX7_better 74 = .ok (.iload_n 3, 1) := by decide +kernel
theorem dX7_better_75 : decode cX7_better 75 = .ok (.imul, 1) := by decide +kernel
theorem dX7_better_76 : decode cX7_better 76 = .ok (.iload 4, 2) := by decide +kernel
theorem dX7_better_78 : decode cX7_better 78 = .ok (.iadd, 1) := by decide +kernel
theorem dX7_better_79 : decode cX7_better 79 = .ok (.istore_n 2, 1) := by decide +kernel
theorem dX7_better_80 : decode cX7_better 80 = .ok (.iinc 4 1, 3) := by decide +kernel
theorem dX7_better_83 : decode cX7_better 83 = .ok (.goto (-61), 3) := by decide +kernel
theorem dX7_better_86 : decode cX7_better 86 = .ok (.iinc 3 1, 3) := by decide +kernel
theorem dX7_better_89 : decode cX7_better 89 = .ok (.goto (-83), 3) := by decide +kernel
theorem dX7_better_92 : decode cX7_better 92 = .ok (.iload_n 2, 1) := by decide +kernel
theorem dX7_better_93 : decode cX7_better 93 = .ok (.ifCond .ge 11, 3) := by decide +kernel
theorem dX7_better_96 : decode cX7_better 96 = .ok (.aload_n 0, 1) := by decide +kernel
theorem dX7_better_97 : decode cX7_better 97 = .ok (.iconst 3, 1) := by decide +kernel
theorem dX7_better_98 : decode cX7_better 98 = .ok (.invokevirtual 56, 3) := by decide +kernel
theorem dX7_better_101 : decode cX7_better 101 = .ok (.goto 4, 3) := by decide +kernel
theorem dX7_better_104 : decode cX7_better 104 = .ok (.iload_n 2, 1) := by decide +kernel
theorem dX7_better_105 : decode cX7_better 105 = .ok (.ireturn, 1) := by decide +kernel
theorem dX7_bestAs_0 : decode cX7_bestAs 0 = .ok (.aload_n 0, 1) := by decide +kernel
theorem dX7_bestAs_1 : decode cX7_bestAs 1 = .ok (.getfield 10, 3) := by decide +kernel
theorem dX7_bestAs_4 : decode cX7_bestAs 4 = .ok (.iload_n 1, 1) := by decide +kernel
theorem dX7_bestAs_5 : decode cX7_bestAs 5 = .ok (.invokevirtual 67, 3) := by decide +kernel
theorem dX7_bestAs_8 : decode cX7_bestAs 8 = .ok (.ifCond .ne 9, 3) := by decide +kernel
theorem dX7_bestAs_11 : decode cX7_bestAs 11 = .ok (.aload_n 0, 1) := by decide +kernel
theorem dX7_bestAs_12 : decode cX7_bestAs 12 = .ok (.iconst 0, 1) := by decide +kernel
theorem dX7_bestAs_13 : decode cX7_bestAs 13 = .ok (.invokevirtual 56, 3) := by decide +kernel
theorem dX7_bestAs_16 : decode cX7_bestAs 16 = .ok (.ireturn, 1) := by decide +kernel
theorem dX7_bestAs_17 : decode cX7_bestAs 17 = .ok (.iconst (-1), 1) := by decide +kernel
theorem dX7_bestAs_18 : decode cX7_bestAs 18 = .ok (.istore_n 2, 1) := by decide +kernel
theorem dX7_bestAs_19 : decode cX7_bestAs 19 = .ok (.iconst (-1), 1) := by decide +kernel
theorem dX7_bestAs_20 : decode cX7_bestAs 20 = .ok (.istore_n 3, 1) := by decide +kernel
theorem dX7_bestAs_21 : decode cX7_bestAs 21 = .ok (.iconst 0, 1) := by decide +kernel
theorem dX7_bestAs_22 : decode cX7_bestAs 22 = .ok (.istore 4, 2) := by decide +kernel
theorem dX7_bestAs_24 : decode cX7_bestAs 24 = .ok (.iload 4, 2) := by decide +kernel
theorem dX7_bestAs_26 : decode cX7_bestAs 26 = .ok (.aload_n 0, 1) := by decide +kernel
theorem dX7_bestAs_27 : decode cX7_bestAs 27 = .ok (.getfield 10, 3) := by decide +kernel
theorem dX7_bestAs_30 : decode cX7_bestAs 30 = .ok (.getfield 117, 3) := by decide +kernel
theorem dX7_bestAs_33 : decode cX7_bestAs 33 = .ok (.if_icmp .ge 56, 3) := by decide +kernel
theorem dX7_bestAs_36 : decode cX7_bestAs 36 = .ok (.iload 4, 2) := by decide +kernel
theorem dX7_bestAs_38 : decode cX7_bestAs 38 = .ok (.iload_n 1, 1) := by decide +kernel
theorem dX7_bestAs_39 : decode cX7_bestAs 39 = .ok (.if_icmp .eq 44, 3) := by decide +kernel
theorem dX7_bestAs_42 : decode cX7_bestAs 42 = .ok (.aload_n 0, 1) := by decide +kernel
theorem dX7_bestAs_43 : decode cX7_bestAs 43 = .ok (.getfield 10, 3) := by decide +kernel
theorem dX7_bestAs_46 : decode cX7_bestAs 46 = .ok (.iload 4, 2) := by decide +kernel
theorem dX7_bestAs_48 : decode cX7_bestAs 48 = .ok (.iload_n 1, 1) := by decide +kernel
theorem dX7_bestAs_49 : decode cX7_bestAs 49 = .ok (.invokevirtual 106, 3) := by decide +kernel
theorem dX7_bestAs_52 : decode cX7_bestAs 52 = .ok (.ifCond .eq 31, 3) := by decide +kernel
theorem dX7_bestAs_55 : decode cX7_bestAs 55 = .ok (.aload_n 0, 1) := by decide +kernel
theorem dX7_bestAs_56 : decode cX7_bestAs 56 = .ok (.getfield 10, 3) := by decide +kernel
theorem dX7_bestAs_59 : decode cX7_bestAs 59 = .ok (.iload 4, 2) := by decide +kernel
theorem dX7_bestAs_61 : decode cX7_bestAs 61 = .ok (.iload_n 1, 1) := by decide +kernel
theorem dX7_bestAs_62 : decode cX7_bestAs 62 = .ok (.invokevirtual 88, 3) := by decide +kernel
theorem dX7_bestAs_65 : decode cX7_bestAs 65 = .ok (.iload_n 2, 1) := by decide +kernel
theorem dX7_bestAs_66 : decode cX7_bestAs 66 = .ok (.if_icmp .le 17, 3) := by decide +kernel
theorem dX7_bestAs_69 : decode cX7_bestAs 69 = .ok (.aload_n 0, 1) := by decide +kernel
theorem dX7_bestAs_70 : decode cX7_bestAs 70 = .ok (.getfield 10, 3) := by decide +kernel
theorem dX7_bestAs_73 : decode cX7_bestAs 73 = .ok (.iload 4, 2) := by decide +kernel
theorem dX7_bestAs_75 : decode cX7_bestAs 75 = .ok (.iload_n 1, 1) := by decide +kernel
theorem dX7_bestAs_76 : decode cX7_bestAs 76 = .ok (.invokevirtual 88, 3) := by decide +kernel
theorem dX7_bestAs_79 : decode cX7_bestAs 79 = .ok (.istore_n 2, 1) := by decide +kernel
theorem dX7_bestAs_80 : decode cX7_bestAs 80 = .ok (.iload 4, 2) := by decide +kernel
theorem dX7_bestAs_82 : decode cX7_bestAs 82 = .ok (.istore_n 3, 1) := by decide +kernel
theorem dX7_bestAs_83 : decode cX7_bestAs 83 = .ok (.iinc 4 1, 3) := by decide +kernel
theorem dX7_bestAs_86 : decode cX7_bestAs 86 = .ok (.goto (-62), 3) := by decide +kernel
theorem dX7_bestAs_89 : decode cX7_bestAs 89 = .ok (.iload_n 3, 1) := by decide +kernel
theorem dX7_bestAs_90 : decode cX7_bestAs 90 = .ok (.ifCond .ge 11, 3) := by decide +kernel
theorem dX7_bestAs_93 : decode cX7_bestAs 93 = .ok (.aload_n 0, 1) := by decide +kernel
theorem dX7_bestAs_94 : decode cX7_bestAs 94 = .ok (.iconst 3, 1) := by decide +kernel
theorem dX7_bestAs_95 : decode cX7_bestAs 95 = .ok (.invokevirtual 56, 3) := by decide +kernel
theorem dX7_bestAs_98 : decode cX7_bestAs 98 = .ok (.goto 4, 3) := by decide +kernel
theorem dX7_bestAs_101 : decode cX7_bestAs 101 = .ok (.iload_n 3, 1) := by decide +kernel
theorem dX7_bestAs_102 : decode cX7_bestAs 102 = .ok (.ireturn, 1) := by decide +kernel
theorem dX7_kind_0 : decode cX7_kind 0 = .ok (.aload_n 0, 1) := by decide +kernel
theorem dX7_kind_1 : decode cX7_kind 1 = .ok (.getfield 10, 3) := by decide +kernel
theorem dX7_kind_4 : decode cX7_kind 4 = .ok (.iload_n 1, 1) := by decide +kernel
theorem dX7_kind_5 : decode cX7_kind 5 = .ok (.invokevirtual 67, 3) := by decide +kernel
theorem dX7_kind_8 : decode cX7_kind 8 = .ok (.ifCond .ne 9, 3) := by decide +kernel
theorem dX7_kind_11 : decode cX7_kind 11 = .ok (.aload_n 0, 1) := by decide +kernel
theorem dX7_kind_12 : decode cX7_kind 12 = .ok (.iconst 0, 1) := by decide +kernel
theorem dX7_kind_13 : decode cX7_kind 13 = .ok (.invokevirtual 56, 3) := by decide +kernel
theorem dX7_kind_16 : decode cX7_kind 16 = .ok (.ireturn, 1) := by decide +kernel
theorem dX7_kind_17 : decode cX7_kind 17 = .ok (.aload_n 0, 1) := by decide +kernel
theorem dX7_kind_18 : decode cX7_kind 18 = .ok (.getfield 10, 3) := by decide +kernel
theorem dX7_kind_21 : decode cX7_kind 21 = .ok (.getfield 85, 3) := by decide +kernel
theorem dX7_kind_24 : decode cX7_kind 24 = .ok (.iload_n 1, 1) := by decide +kernel
theorem dX7_kind_25 : decode cX7_kind 25 = .ok (.iaload, 1) := by decide +kernel
theorem dX7_kind_26 : decode cX7_kind 26 = .ok (.istore_n 2, 1) := by decide +kernel
theorem dX7_kind_27 : decode cX7_kind 27 = .ok (.iconst 0, 1) := by decide +kernel
theorem dX7_kind_28 : decode cX7_kind 28 = .ok (.istore_n 3, 1) := by decide +kernel
theorem dX7_kind_29 : decode cX7_kind 29 = .ok (.iconst 1, 1) := by decide +kernel
theorem dX7_kind_30 : decode cX7_kind 30 = .ok (.istore 4, 2) := by decide +kernel
theorem dX7_kind_32 : decode cX7_kind 32 = .ok (.iload 4, 2) := by decide +kernel
theorem dX7_kind_34 : decode cX7_kind 34 = .ok (.bipush 6, 2) := by decide +kernel
theorem dX7_kind_36 : decode cX7_kind 36 = .ok (.if_icmp .ge 36, 3) := by decide +kernel
theorem dX7_kind_39 : decode cX7_kind 39 = .ok (.aload_n 0, 1) := by decide +kernel
theorem dX7_kind_40 : decode cX7_kind 40 = .ok (.getfield 10, 3) := by decide +kernel
theorem dX7_kind_43 : decode cX7_kind 43 = .ok (.iload 4, 2) := by decide +kernel
theorem dX7_kind_45 : decode cX7_kind 45 = .ok (.iload_n 1, 1) := by decide +kernel
theorem dX7_kind_46 : decode cX7_kind 46 = .ok (.iload_n 2, 1) := by decide +kernel
theorem dX7_kind_47 : decode cX7_kind 47 = .ok (.invokevirtual 177, 3) := by decide +kernel
theorem dX7_kind_50 : decode cX7_kind 50 = .ok (.aload_n 0, 1) := by decide +kernel
theorem dX7_kind_51 : decode cX7_kind 51 = .ok (.getfield 10, 3) := by decide +kernel
theorem dX7_kind_54 : decode cX7_kind 54 = .ok (.iload_n 3, 1) := by decide +kernel
theorem dX7_kind_55 : decode cX7_kind 55 = .ok (.iload_n 1, 1) := by decide +kernel
theorem dX7_kind_56 : decode cX7_kind 56 = .ok (.iload_n 2, 1) := by decide +kernel
theorem dX7_kind_57 : decode cX7_kind 57 = .ok (.invokevirtual 177, 3) := by decide +kernel
theorem dX7_kind_60 : decode cX7_kind 60 = .ok (.if_icmp .le 6, 3) := by decide +kernel
theorem dX7_kind_63 : decode cX7_kind 63 = .ok (.iload 4, 2) := by decide +kernel
theorem dX7_kind_65 : decode cX7_kind 65 = .ok (.istore_n 3, 1) := by decide +kernel
theorem dX7_kind_66 : decode cX7_kind 66 = .ok (.iinc 4 1, 3) := by decide +kernel
theorem dX7_kind_69 : decode cX7_kind 69 = .ok (.goto (-37), 3) := by decide +kernel
theorem dX7_kind_72 : decode cX7_kind 72 = .ok (.iload_n 3, 1) := by decide +kernel
theorem dX7_kind_73 : decode cX7_kind 73 = .ok (.ireturn, 1) := by decide +kernel
theorem dX7_odds_0 : decode cX7_odds 0 = .ok (.iload_n 1, 1) := by decide +kernel
theorem dX7_odds_1 : decode cX7_odds 1 = .ok (.ifCond .lt 8, 3) := by decide +kernel
theorem dX7_odds_4 : decode cX7_odds 4 = .ok (.iload_n 1, 1) := by decide +kernel
theorem dX7_odds_5 : decode cX7_odds 5 = .ok (.iconst 1, 1) := by decide +kernel
theorem dX7_odds_6 : decode cX7_odds 6 = .ok (.if_icmp .le 9, 3) := by decide +kernel
theorem dX7_odds_9 : decode cX7_odds 9 = .ok (.aload_n 0, 1) := by decide +kernel
theorem dX7_odds_10 : decode cX7_odds 10 = .ok (.iconst 0, 1) := by decide +kernel
theorem dX7_odds_11 : decode cX7_odds 11 = .ok (.invokevirtual 56, 3) := by decide +kernel
theorem dX7_odds_14 : decode cX7_odds 14 = .ok (.ireturn, 1) := by decide +kernel
theorem dX7_odds_15 : decode cX7_odds 15 = .ok (.aload_n 0, 1) := by decide +kernel
theorem dX7_odds_16 : decode cX7_odds 16 = .ok (.getfield 10, 3) := by decide +kernel
theorem dX7_odds_19 : decode cX7_odds 19 = .ok (.invokevirtual 144, 3) := by decide +kernel
theorem dX7_odds_22 : decode cX7_odds 22 = .ok (.invokestatic 181, 3) := by decide +kernel
theorem dX7_odds_25 : decode cX7_odds 25 = .ok (.istore_n 2, 1) := by decide +kernel
theorem dX7_odds_26 : decode cX7_odds 26 = .ok (.aload_n 0, 1) := by decide +kernel
theorem dX7_odds_27 : decode cX7_odds 27 = .ok (.getfield 10, 3) := by decide +kernel
theorem dX7_odds_30 : decode cX7_odds 30 = .ok (.getfield 117, 3) := by decide +kernel
theorem dX7_odds_33 : decode cX7_odds 33 = .ok (.iload_n 2, 1) := by decide +kernel
theorem dX7_odds_34 : decode cX7_odds 34 = .ok (.isub, 1) := by decide +kernel
theorem dX7_odds_35 : decode cX7_odds 35 = .ok (.istore_n 3, 1) := by decide +kernel
theorem dX7_odds_36 : decode cX7_odds 36 = .ok (.iload_n 3, 1) := by decide +kernel
theorem dX7_odds_37 : decode cX7_odds 37 = .ok (.invokestatic 186, 3) := by decide +kernel
theorem dX7_odds_40 : decode cX7_odds 40 = .ok (.iload_n 2, 1) := by decide +kernel
theorem dX7_odds_41 : decode cX7_odds 41 = .ok (.invokestatic 186, 3) := by decide +kernel
theorem dX7_odds_44 : decode cX7_odds 44 = .ok (.imul, 1) := by decide +kernel
theorem dX7_odds_45 : decode cX7_odds 45 = .ok (.istore 4, 2) := by decide +kernel
theorem dX7_odds_47 : decode cX7_odds 47 = .ok (.iload_n 3, 1) := by decide +kernel
theorem dX7_odds_48 : decode cX7_odds 48 = .ok (.invokestatic 191, 3) := by decide +kernel
theorem dX7_odds_51 : decode cX7_odds 51 = .ok (.iload_n 2, 1) := by decide +kernel
theorem dX7_odds_52 : decode cX7_odds 52 = .ok (.invokestatic 191, 3) := by decide +kernel
theorem dX7_odds_55 : decode cX7_odds 55 = .ok (.imul, 1) := by decide +kernel
theorem dX7_odds_56 : decode cX7_odds 56 = .ok (.istore 5, 2) := by decide +kernel
theorem dX7_odds_58 : decode cX7_odds 58 = .ok (.iconst 1, 1) := by decide +kernel
theorem dX7_odds_59 : decode cX7_odds 59 = .ok (.iload 4, 2) := by decide +kernel
theorem dX7_odds_61 : decode cX7_odds 61 = .ok (.iload 5, 2) := by decide +kernel
theorem dX7_odds_63 : decode cX7_odds 63 = .ok (.invokestatic 194, 3) := by decide +kernel
theorem dX7_odds_66 : decode cX7_odds 66 = .ok (.invokestatic 197, 3) := by decide +kernel
theorem dX7_odds_69 : decode cX7_odds 69 = .ok (.istore 6, 2) := by decide +kernel
theorem dX7_odds_71 : decode cX7_odds 71 = .ok (.iload_n 1, 1) := by decide +kernel
theorem dX7_odds_72 : decode cX7_odds 72 = .ok (.ifCond .ne 8, 3) := by decide +kernel
theorem dX7_odds_75 : decode cX7_odds 75 = .ok (.iload 4, 2) := by decide +kernel
theorem dX7_odds_77 : decode cX7_odds 77 = .ok (.goto 5, 3) := by decide +kernel
theorem dX7_odds_80 : decode cX7_odds 80 = .ok (.iload 5, 2) := by decide +kernel
theorem dX7_odds_82 : decode cX7_odds 82 = .ok (.iload 6, 2) := by decide +kernel
theorem dX7_odds_84 : decode cX7_odds 84 = .ok (.idiv, 1) := by decide +kernel
theorem dX7_odds_85 : decode cX7_odds 85 = .ok (.ireturn, 1) := by decide +kernel
theorem dX7_lots_0 : decode cX7_lots 0 = .ok (.iload_n 1, 1) := by decide +kernel
theorem dX7_lots_1 : decode cX7_lots 1 = .ok (.ifCond .lt 9, 3) := by decide +kernel
theorem dX7_lots_4 : decode cX7_lots 4 = .ok (.iload_n 1, 1) := by decide +kernel
theorem dX7_lots_5 : decode cX7_lots 5 = .ok (.bipush 8, 2) := by decide +kernel
theorem dX7_lots_7 : decode cX7_lots 7 = .ok (.if_icmp .le 9, 3) := by decide +kernel
theorem dX7_lots_10 : decode cX7_lots 10 = .ok (.aload_n 0, 1) := by decide +kernel
theorem dX7_lots_11 : decode cX7_lots 11 = .ok (.iconst 0, 1) := by decide +kernel
theorem dX7_lots_12 : decode cX7_lots 12 = .ok (.invokevirtual 56, 3) := by decide +kernel
theorem dX7_lots_15 : decode cX7_lots 15 = .ok (.ireturn, 1) := by decide +kernel
theorem dX7_lots_16 : decode cX7_lots 16 = .ok (.aload_n 0, 1) := by decide +kernel
theorem dX7_lots_17 : decode cX7_lots 17 = .ok (.getfield 10, 3) := by decide +kernel
theorem dX7_lots_20 : decode cX7_lots 20 = .ok (.invokevirtual 144, 3) := by decide +kernel
theorem dX7_lots_23 : decode cX7_lots 23 = .ok (.invokestatic 181, 3) := by decide +kernel
theorem dX7_lots_26 : decode cX7_lots 26 = .ok (.istore_n 2, 1) := by decide +kernel
theorem dX7_lots_27 : decode cX7_lots 27 = .ok (.aload_n 0, 1) := by decide +kernel
theorem dX7_lots_28 : decode cX7_lots 28 = .ok (.getfield 10, 3) := by decide +kernel
theorem dX7_lots_31 : decode cX7_lots 31 = .ok (.getfield 117, 3) := by decide +kernel
theorem dX7_lots_34 : decode cX7_lots 34 = .ok (.iload_n 2, 1) := by decide +kernel
theorem dX7_lots_35 : decode cX7_lots 35 = .ok (.isub, 1) := by decide +kernel
theorem dX7_lots_36 : decode cX7_lots 36 = .ok (.istore_n 3, 1) := by decide +kernel
theorem dX7_lots_37 : decode cX7_lots 37 = .ok (.iconst 0, 1) := by decide +kernel
theorem dX7_lots_38 : decode cX7_lots 38 = .ok (.istore 4, 2) := by decide +kernel
theorem dX7_lots_40 : decode cX7_lots 40 = .ok (.iconst 0, 1) := by decide +kernel
theorem dX7_lots_41 : decode cX7_lots 41 = .ok (.istore 5, 2) := by decide +kernel
theorem dX7_lots_43 : decode cX7_lots 43 = .ok (.iload 5, 2) := by decide +kernel
theorem dX7_lots_45 : decode cX7_lots 45 = .ok (.iload_n 1, 1) := by decide +kernel
theorem dX7_lots_46 : decode cX7_lots 46 = .ok (.if_icmp .gt 29, 3) := by decide +kernel
theorem dX7_lots_49 : decode cX7_lots 49 = .ok (.iload 4, 2) := by decide +kernel
theorem dX7_lots_51 : decode cX7_lots 51 = .ok (.iload_n 3, 1) := by decide +kernel
theorem dX7_lots_52 : decode cX7_lots 52 = .ok (.iload 5, 2) := by decide +kernel
theorem dX7_lots_54 : decode cX7_lots 54 = .ok (.invokestatic 202, 3) := by decide +kernel
theorem dX7_lots_57 : decode cX7_lots 57 = .ok (.iload_n 2, 1) := by decide +kernel
theorem dX7_lots_58 : decode cX7_lots 58 = .ok (.iload_n 1, 1) := by decide +kernel
theorem dX7_lots_59 : decode cX7_lots 59 = .ok (.iload 5, 2) := by decide +kernel
theorem dX7_lots_61 : decode cX7_lots 61 = .ok (.isub, 1) := by decide +kernel
theorem dX7_lots_62 : decode cX7_lots 62 = .ok (.invokestatic 202, 3) := by decide +kernel
theorem dX7_lots_65 : decode cX7_lots 65 = .ok (.imul, 1) := by decide +kernel
theorem dX7_lots_66 : decode cX7_lots 66 = .ok (.iadd, 1) := by decide +kernel
theorem dX7_lots_67 : decode cX7_lots 67 = .ok (.istore 4, 2) := by decide +kernel
theorem dX7_lots_69 : decode cX7_lots 69 = .ok (.iinc 5 1, 3) := by decide +kernel
theorem dX7_lots_72 : decode cX7_lots 72 = .ok (.goto (-29), 3) := by decide +kernel
theorem dX7_lots_75 : decode cX7_lots 75 = .ok (.iload 4, 2) := by decide +kernel
theorem dX7_lots_77 : decode cX7_lots 77 = .ok (.ireturn, 1) := by decide +kernel
theorem dX7_feed_0 : decode cX7_feed 0 = .ok (.iload_n 2, 1) := by decide +kernel
theorem dX7_feed_1 : decode cX7_feed 1 = .ok (.iconst 1, 1) := by decide +kernel
theorem dX7_feed_2 : decode cX7_feed 2 = .ok (.if_icmp .lt 8, 3) := by decide +kernel
theorem dX7_feed_5 : decode cX7_feed 5 = .ok (.iload_n 2, 1) := by decide +kernel
theorem dX7_feed_6 : decode cX7_feed 6 = .ok (.iconst 4, 1) := by decide +kernel
theorem dX7_feed_7 : decode cX7_feed 7 = .ok (.if_icmp .le 9, 3) := by decide +kernel
theorem dX7_feed_10 : decode cX7_feed 10 = .ok (.aload_n 0, 1) := by decide +kernel
theorem dX7_feed_11 : decode cX7_feed 11 = .ok (.iconst 0, 1) := by decide +kernel
theorem dX7_feed_12 : decode cX7_feed 12 = .ok (.invokevirtual 56, 3) := by decide +kernel
theorem dX7_feed_15 : decode cX7_feed 15 = .ok (.ireturn, 1) := by decide +kernel
theorem dX7_feed_16 : decode cX7_feed 16 = .ok (.aload_n 0, 1) := by decide +kernel
theorem dX7_feed_17 : decode cX7_feed 17 = .ok (.getfield 40, 3) := by decide +kernel
theorem dX7_feed_20 : decode cX7_feed 20 = .ok (.getfield 205, 3) := by decide +kernel
theorem dX7_feed_23 : decode cX7_feed 23 = .ok (.iload_n 2, 1) := by decide +kernel
theorem dX7_feed_24 : decode cX7_feed 24 = .ok (.iadd, 1) := by decide +kernel
theorem dX7_feed_25 : decode cX7_feed 25 = .ok (.bipush 120, 2) := by decide +kernel
theorem dX7_feed_27 : decode cX7_feed 27 = .ok (.if_icmp .le 9, 3) := by decide +kernel
theorem dX7_feed_30 : decode cX7_feed 30 = .ok (.aload_n 0, 1) := by decide +kernel
theorem dX7_feed_31 : decode cX7_feed 31 = .ok (.iconst 1, 1) := by decide +kernel
theorem dX7_feed_32 : decode cX7_feed 32 = .ok (.invokevirtual 56, 3) := by decide +kernel
theorem dX7_feed_35 : decode cX7_feed 35 = .ok (.ireturn, 1) := by decide +kernel
theorem dX7_feed_36 : decode cX7_feed 36 = .ok (.iload_n 2, 1) := by decide +kernel
theorem dX7_feed_37 : decode cX7_feed 37 = .ok (.iconst 1, 1) := by decide +kernel
theorem dX7_feed_38 : decode cX7_feed 38 = .ok (.isub, 1) := by decide +kernel
theorem dX7_feed_39 : decode cX7_feed 39 = .ok (.istore_n 3, 1) := by decide +kernel
theorem dX7_feed_40 : decode cX7_feed 40 = .ok (.iload_n 3, 1) := by decide +kernel
theorem dX7_feed_41 : decode cX7_feed 41 = .ok (.ifCond .lt 26, 3) := by decide +kernel
theorem dX7_feed_44 : decode cX7_feed 44 = .ok (.aload_n 0, 1) := by decide +kernel
theorem dX7_feed_45 : decode cX7_feed 45 = .ok (.getfield 40, 3) := by decide +kernel
theorem dX7_feed_48 : decode cX7_feed 48 = .ok (.iload_n 1, 1) := by decide +kernel
theorem dX7_feed_49 : decode cX7_feed 49 = .ok (.bipush 8, 2) := by decide +kernel
theorem dX7_feed_51 : decode cX7_feed 51 = .ok (.iload_n 3, 1) := by decide +kernel
theorem dX7_feed_52 : decode cX7_feed 52 = .ok (.imul, 1) := by decide +kernel
theorem dX7_feed_53 : decode cX7_feed 53 = .ok (.iushr, 1) := by decide +kernel
theorem dX7_feed_54 : decode cX7_feed 54 = .ok (.sipush 255, 3) := by decide +kernel
theorem dX7_feed_57 : decode cX7_feed 57 = .ok (.iand, 1) := by decide +kernel
theorem dX7_feed_58 : decode cX7_feed 58 = .ok (.invokevirtual 208, 3) := by decide +kernel
theorem dX7_feed_61 : decode cX7_feed 61 = .ok (.iinc 3 (-1), 3) := by decide +kernel
theorem dX7_feed_64 : decode cX7_feed 64 = .ok (.goto (-24), 3) := by decide +kernel
theorem dX7_feed_67 : decode cX7_feed 67 = .ok (.aload_n 0, 1) := by decide +kernel
theorem dX7_feed_68 : decode cX7_feed 68 = .ok (.getfield 40, 3) := by decide +kernel
theorem dX7_feed_71 : decode cX7_feed 71 = .ok (.getfield 205, 3) := by decide +kernel
theorem dX7_feed_74 : decode cX7_feed 74 = .ok (.ireturn, 1) := by decide +kernel
theorem dX7_wipe_0 : decode cX7_wipe 0 = .ok (.aload_n 0, 1) := by decide +kernel
theorem dX7_wipe_1 : decode cX7_wipe 1 = .ok (.getfield 40, 3) := by decide +kernel
theorem dX7_wipe_4 : decode cX7_wipe 4 = .ok (.getfield 205, 3) := by decide +kernel
theorem dX7_wipe_7 : decode cX7_wipe 7 = .ok (.istore_n 1, 1) := by decide +kernel
theorem dX7_wipe_8 : decode cX7_wipe 8 = .ok (.aload_n 0, 1) := by decide +kernel
theorem dX7_wipe_9 : decode cX7_wipe 9 = .ok (.getfield 40, 3) := by decide +kernel
theorem dX7_wipe_12 : decode cX7_wipe 12 = .ok (.iconst 0, 1) := by decide +kernel
theorem dX7_wipe_13 : decode cX7_wipe 13 = .ok (.putfield 205, 3) := by decide +kernel
theorem dX7_wipe_16 : decode cX7_wipe 16 = .ok (.iload_n 1, 1) := by decide +kernel
theorem dX7_wipe_17 : decode cX7_wipe 17 = .ok (.ireturn, 1) := by decide +kernel
theorem dX7_village_0 : decode cX7_village 0 = .ok (.aload_n 0, 1) := by decide +kernel
theorem dX7_village_1 : decode cX7_village 1 = .ok (.getfield 19, 3) := by decide +kernel
theorem dX7_village_4 : decode cX7_village 4 = .ok (.aload_n 0, 1) := by decide +kernel
theorem dX7_village_5 : decode cX7_village 5 = .ok (.getfield 10, 3) := by decide +kernel
theorem dX7_village_8 : decode cX7_village 8 = .ok (.invokevirtual 162, 3) := by decide +kernel
theorem dX7_village_11 : decode cX7_village 11 = .ok (.aload_n 0, 1) := by decide +kernel
theorem dX7_village_12 : decode cX7_village 12 = .ok (.getfield 32, 3) := by decide +kernel
theorem dX7_village_15 : decode cX7_village 15 = .ok (.aload_n 0, 1) := by decide +kernel
theorem dX7_village_16 : decode cX7_village 16 = .ok (.getfield 19, 3) := by decide +kernel
theorem dX7_village_19 : decode cX7_village 19 = .ok (.invokevirtual 210, 3) := by decide +kernel
theorem dX7_village_22 : decode cX7_village 22 = .ok (.istore_n 1, 1) := by decide +kernel
theorem dX7_village_23 : decode cX7_village 23 = .ok (.iload_n 1, 1) := by decide +kernel
theorem dX7_village_24 : decode cX7_village 24 = .ok (.ifCond .lt 14, 3) := by decide +kernel
theorem dX7_village_27 : decode cX7_village 27 = .ok (.aload_n 0, 1) := by decide +kernel
theorem dX7_village_28 : decode cX7_village 28 = .ok (.getfield 10, 3) := by decide +kernel
theorem dX7_village_31 : decode cX7_village 31 = .ok (.aload_n 0, 1) := by decide +kernel
theorem dX7_village_32 : decode cX7_village 32 = .ok (.getfield 19, 3) := by decide +kernel
theorem dX7_village_35 : decode cX7_village 35 = .ok (.invokevirtual 162, 3) := by decide +kernel
theorem dX7_village_38 : decode cX7_village 38 = .ok (.aload_n 0, 1) := by decide +kernel
theorem dX7_village_39 : decode cX7_village 39 = .ok (.getfield 40, 3) := by decide +kernel
theorem dX7_village_42 : decode cX7_village 42 = .ok (.iconst 0, 1) := by decide +kernel
theorem dX7_village_43 : decode cX7_village 43 = .ok (.putfield 205, 3) := by decide +kernel
theorem dX7_village_46 : decode cX7_village 46 = .ok (.iload_n 1, 1) := by decide +kernel
theorem dX7_village_47 : decode cX7_village 47 = .ok (.ireturn, 1) := by decide +kernel
theorem dX7_sheet_0 : decode cX7_sheet 0 = .ok (.iload_n 1, 1) := by decide +kernel
theorem dX7_sheet_1 : decode cX7_sheet 1 = .ok (.invokestatic 213, 3) := by decide +kernel
theorem dX7_sheet_4 : decode cX7_sheet 4 = .ok (.ifCond .eq 25, 3) := by decide +kernel
theorem dX7_sheet_7 : decode cX7_sheet 7 = .ok (.iload_n 2, 1) := by decide +kernel
theorem dX7_sheet_8 : decode cX7_sheet 8 = .ok (.ifCond .eq 27, 3) := by decide +kernel
theorem dX7_sheet_11 : decode cX7_sheet 11 = .ok (.iload_n 2, 1) := by decide +kernel
theorem dX7_sheet_12 : decode cX7_sheet 12 = .ok (.bipush 8, 2) := by decide +kernel
theorem dX7_sheet_14 : decode cX7_sheet 14 = .ok (.if_icmp .eq 21, 3) := by decide +kernel
theorem dX7_sheet_17 : decode cX7_sheet 17 = .ok (.iload_n 2, 1) := by decide +kernel
theorem dX7_sheet_18 : decode cX7_sheet 18 = .ok (.bipush 16, 2) := by decide +kernel
theorem dX7_sheet_20 : decode cX7_sheet 20 = .ok (.if_icmp .eq 15, 3) := by decide +kernel
theorem dX7_sheet_23 : decode cX7_sheet 23 = .ok (.iload_n 2, 1) := by decide +kernel
theorem dX7_sheet_24 : decode cX7_sheet 24 = .ok (.bipush 64, 2) := by decide +kernel
theorem dX7_sheet_26 : decode cX7_sheet 26 = .ok (.if_icmp .eq 9, 3) := by decide +kernel
theorem dX7_sheet_29 : decode cX7_sheet 29 = .ok (.aload_n 0, 1) := by decide +kernel
theorem dX7_sheet_30 : decode cX7_sheet 30 = .ok (.iconst 0, 1) := by decide +kernel
theorem dX7_sheet_31 : decode cX7_sheet 31 = .ok (.invokevirtual 56, 3) := by decide +kernel
theorem dX7_sheet_34 : decode cX7_sheet 34 = .ok (.ireturn, 1) := by decide +kernel
theorem dX7_sheet_35 : decode cX7_sheet 35 = .ok (.iload_n 3, 1) := by decide +kernel
theorem dX7_sheet_36 : decode cX7_sheet 36 = .ok (.ifCond .ge 10, 3) := by decide +kernel
theorem dX7_sheet_39 : decode cX7_sheet 39 = .ok (.aload_n 0, 1) := by decide +kernel
theorem dX7_sheet_40 : decode cX7_sheet 40 = .ok (.bipush 6, 2) := by decide +kernel
theorem dX7_sheet_42 : decode cX7_sheet 42 = .ok (.invokevirtual 56, 3) := by decide +kernel
theorem dX7_sheet_45 : decode cX7_sheet 45 = .ok (.ireturn, 1) := by decide +kernel
theorem dX7_sheet_46 : decode cX7_sheet 46 = .ok (.iload_n 3, 1) := by decide +kernel
theorem dX7_sheet_47 : decode cX7_sheet 47 = .ok (.bipush 40, 2) := by decide +kernel
theorem dX7_sheet_49 : decode cX7_sheet 49 = .ok (.if_icmp .le 9, 3) := by decide +kernel
theorem dX7_sheet_52 : decode cX7_sheet 52 = .ok (.aload_n 0, 1) := by decide +kernel
theorem dX7_sheet_53 : decode cX7_sheet 53 = .ok (.iconst 0, 1) := by decide +kernel
theorem dX7_sheet_54 : decode cX7_sheet 54 = .ok (.invokevirtual 56, 3) := by decide +kernel
theorem dX7_sheet_57 : decode cX7_sheet 57 = .ok (.ireturn, 1) := by decide +kernel
theorem dX7_sheet_58 : decode cX7_sheet 58 = .ok (.aload_n 0, 1) := by decide +kernel
theorem dX7_sheet_59 : decode cX7_sheet 59 = .ok (.getfield 43, 3) := by decide +kernel
theorem dX7_sheet_62 : decode cX7_sheet 62 = .ok (.iload_n 1, 1) := by decide +kernel
theorem dX7_sheet_63 : decode cX7_sheet 63 = .ok (.aaload, 1) := by decide +kernel
theorem dX7_sheet_64 : decode cX7_sheet 64 = .ok (.iload_n 2, 1) := by decide +kernel
theorem dX7_sheet_65 : decode cX7_sheet 65 = .ok (.iload_n 3, 1) := by decide +kernel
theorem dX7_sheet_66 : decode cX7_sheet 66 = .ok (.invokevirtual 216, 3) := by decide +kernel
theorem dX7_sheet_69 : decode cX7_sheet 69 = .ok (.ireturn, 1) := by decide +kernel
theorem dX7_write_0 : decode cX7_write 0 = .ok (.iload_n 1, 1) := by decide +kernel
theorem dX7_write_1 : decode cX7_write 1 = .ok (.invokestatic 213, 3) := by decide +kernel
theorem dX7_write_4 : decode cX7_write 4 = .ok (.ifCond .ne 10, 3) := by decide +kernel
theorem dX7_write_7 : decode cX7_write 7 = .ok (.aload_n 0, 1) := by decide +kernel
theorem dX7_write_8 : decode cX7_write 8 = .ok (.iconst 0, 1) := by decide +kernel
theorem dX7_write_9 : decode cX7_write 9 = .ok (.invokevirtual 56, 3) := by decide +kernel
theorem dX7_write_12 : decode cX7_write 12 = .ok (.i2l, 1) := by decide +kernel
theorem dX7_write_13 : decode cX7_write 13 = .ok (.lreturn, 1) := by decide +kernel
theorem dX7_write_14 : decode cX7_write 14 = .ok (.aload_n 0, 1) := by decide +kernel
theorem dX7_write_15 : decode cX7_write 15 = .ok (.getfield 43, 3) := by decide +kernel
theorem dX7_write_18 : decode cX7_write 18 = .ok (.iload_n 1, 1) := by decide +kernel
theorem dX7_write_19 : decode cX7_write 19 = .ok (.aaload, 1) := by decide +kernel
theorem dX7_write_20 : decode cX7_write 20 = .ok (.astore 5, 2) := by decide +kernel
theorem dX7_write_22 : decode cX7_write 22 = .ok (.aload 5, 2) := by decide +kernel
theorem dX7_write_24 : decode cX7_write 24 = .ok (.invokevirtual 219, 3) := by decide +kernel
theorem dX7_write_27 : decode cX7_write 27 = .ok (.ifCond .eq 10, 3) := by decide +kernel
theorem dX7_write_30 : decode cX7_write 30 = .ok (.aload_n 0, 1) := by decide +kernel
theorem dX7_write_31 : decode cX7_write 31 = .ok (.iconst 5, 1) := by decide +kernel
theorem dX7_write_32 : decode cX7_write 32 = .ok (.invokevirtual 56, 3) := by decide +kernel
theorem dX7_write_35 : decode cX7_write 35 = .ok (.i2l, 1) := by decide +kernel
theorem dX7_write_36 : decode cX7_write 36 = .ok (.lreturn, 1) := by decide +kernel
theorem dX7_write_37 : decode cX7_write 37 = .ok (.iload_n 2, 1) := by decide +kernel
theorem dX7_write_38 : decode cX7_write 38 = .ok (.ifCond .lt 12, 3) := by decide +kernel
theorem dX7_write_41 : decode cX7_write 41 = .ok (.iload_n 2, 1) := by decide +kernel
theorem dX7_write_42 : decode cX7_write 42 = .ok (.aload 5, 2) := by decide +kernel
theorem dX7_write_44 : decode cX7_write 44 = .ok (.getfield 222, 3) := by decide +kernel
theorem dX7_write_47 : decode cX7_write 47 = .ok (.if_icmp .lt 10, 3) := by decide +kernel
theorem dX7_write_50 : decode cX7_write 50 = .ok (.aload_n 0, 1) := by decide +kernel
theorem dX7_write_51 : decode cX7_write 51 = .ok (.iconst 0, 1) := by decide +kernel
theorem dX7_write_52 : decode cX7_write 52 = .ok (.invokevirtual 56, 3) := by decide +kernel
theorem dX7_write_55 : decode cX7_write 55 = .ok (.i2l, 1) := by decide +kernel
theorem dX7_write_56 : decode cX7_write 56 = .ok (.lreturn, 1) := by decide +kernel
theorem dX7_write_57 : decode cX7_write 57 = .ok (.aload 5, 2) := by decide +kernel
theorem dX7_write_59 : decode cX7_write 59 = .ok (.getfield 223, 3) := by decide +kernel
theorem dX7_write_62 : decode cX7_write 62 = .ok (.iload_n 2, 1) := by decide +kernel
theorem dX7_write_63 : decode cX7_write 63 = .ok (.laload, 1) := by decide +kernel
theorem dX7_write_64 : decode cX7_write 64 = .ok (.lstore 6, 2) := by decide +kernel
theorem dX7_write_66 : decode cX7_write 66 = .ok (.aload 5, 2) := by decide +kernel
theorem dX7_write_68 : decode cX7_write 68 = .ok (.iload_n 2, 1) := by decide +kernel
theorem dX7_write_69 : decode cX7_write 69 = .ok (.lload_n 3, 1) := by decide +kernel
theorem dX7_write_70 : decode cX7_write 70 = .ok (.invokevirtual 227, 3) := by decide +kernel
theorem dX7_write_73 : decode cX7_write 73 = .ok (.lload 6, 2) := by decide +kernel
theorem dX7_write_75 : decode cX7_write 75 = .ok (.lreturn, 1) := by decide +kernel
theorem dX7_copy_0 : decode cX7_copy 0 = .ok (.iload_n 1, 1) := by decide +kernel
theorem dX7_copy_1 : decode cX7_copy 1 = .ok (.invokestatic 213, 3) := by decide +kernel
theorem dX7_copy_4 : decode cX7_copy 4 = .ok (.ifCond .eq 10, 3) := by decide +kernel
theorem dX7_copy_7 : decode cX7_copy 7 = .ok (.iload_n 3, 1) := by decide +kernel
theorem dX7_copy_8 : decode cX7_copy 8 = .ok (.invokestatic 213, 3) := by decide +kernel
theorem dX7_copy_11 : decode cX7_copy 11 = .ok (.ifCond .ne 9, 3) := by decide +kernel
theorem dX7_copy_14 : decode cX7_copy 14 = .ok (.aload_n 0, 1) := by decide +kernel
theorem dX7_copy_15 : decode cX7_copy 15 = .ok (.iconst 0, 1) := by decide +kernel
theorem dX7_copy_16 : decode cX7_copy 16 = .ok (.invokevirtual 56, 3) := by decide +kernel
theorem dX7_copy_19 : decode cX7_copy 19 = .ok (.ireturn, 1) := by decide +kernel
theorem dX7_copy_20 : decode cX7_copy 20 = .ok (.aload_n 0, 1) := by decide +kernel
theorem dX7_copy_21 : decode cX7_copy 21 = .ok (.getfield 43, 3) := by decide +kernel
theorem dX7_copy_24 : decode cX7_copy 24 = .ok (.iload_n 1, 1) := by decide +kernel
theorem dX7_copy_25 : decode cX7_copy 25 = .ok (.aaload, 1) := by decide +kernel
theorem dX7_copy_26 : decode cX7_copy 26 = .ok (.astore 6, 2) := by decide +kernel
theorem dX7_copy_28 : decode cX7_copy 28 = .ok (.aload_n 0, 1) := by decide +kernel
theorem dX7_copy_29 : decode cX7_copy 29 = .ok (.getfield 43, 3) := by decide +kernel
theorem dX7_copy_32 : decode cX7_copy 32 = .ok (.iload_n 3, 1) := by decide +kernel
theorem dX7_copy_33 : decode cX7_copy 33 = .ok (.aaload, 1) := by decide +kernel
theorem dX7_copy_34 : decode cX7_copy 34 = .ok (.astore 7, 2) := by decide +kernel
theorem dX7_copy_36 : decode cX7_copy 36 = .ok (.aload 6, 2) := by decide +kernel
theorem dX7_copy_38 : decode cX7_copy 38 = .ok (.invokevirtual 219, 3) := by decide +kernel
theorem dX7_copy_41 : decode cX7_copy 41 = .ok (.ifCond .ne 11, 3) := by decide +kernel
theorem dX7_copy_44 : decode cX7_copy 44 = .ok (.aload 7, 2) := by decide +kernel
theorem dX7_copy_46 : decode cX7_copy 46 = .ok (.invokevirtual 219, 3) := by decide +kernel
theorem dX7_copy_49 : decode cX7_copy 49 = .ok (.ifCond .eq 9, 3) := by decide +kernel
theorem dX7_copy_52 : decode cX7_copy 52 = .ok (.aload_n 0, 1) := by decide +kernel
theorem dX7_copy_53 : decode cX7_copy 53 = .ok (.iconst 5, 1) := by decide +kernel
theorem dX7_copy_54 : decode cX7_copy 54 = .ok (.invokevirtual 56, 3) := by decide +kernel
theorem dX7_copy_57 : decode cX7_copy 57 = .ok (.ireturn, 1) := by decide +kernel
theorem dX7_copy_58 : decode cX7_copy 58 = .ok (.aload 6, 2) := by decide +kernel
theorem dX7_copy_60 : decode cX7_copy 60 = .ok (.getfield 231, 3) := by decide +kernel
theorem dX7_copy_63 : decode cX7_copy 63 = .ok (.aload 7, 2) := by decide +kernel
theorem dX7_copy_65 : decode cX7_copy 65 = .ok (.getfield 231, 3) := by decide +kernel
theorem dX7_copy_68 : decode cX7_copy 68 = .ok (.if_icmp .eq 9, 3) := by decide +kernel
theorem dX7_copy_71 : decode cX7_copy 71 = .ok (.aload_n 0, 1) := by decide +kernel
theorem dX7_copy_72 : decode cX7_copy 72 = .ok (.iconst 2, 1) := by decide +kernel
theorem dX7_copy_73 : decode cX7_copy 73 = .ok (.invokevirtual 56, 3) := by decide +kernel
theorem dX7_copy_76 : decode cX7_copy 76 = .ok (.ireturn, 1) := by decide +kernel
theorem dX7_copy_77 : decode cX7_copy 77 = .ok (.aload 6, 2) := by decide +kernel
theorem dX7_copy_79 : decode cX7_copy 79 = .ok (.iload_n 2, 1) := by decide +kernel
theorem dX7_copy_80 : decode cX7_copy 80 = .ok (.iload 5, 2) := by decide +kernel
theorem dX7_copy_82 : decode cX7_copy 82 = .ok (.invokevirtual 234, 3) := by decide +kernel
theorem dX7_copy_85 : decode cX7_copy 85 = .ok (.ifCond .eq 15, 3) := by decide +kernel
theorem dX7_copy_88 : decode cX7_copy 88 = .ok (.aload 7, 2) := by decide +kernel
theorem dX7_copy_90 : decode cX7_copy 90 = .ok (.iload 4, 2) := by decide +kernel
theorem dX7_copy_92 : decode cX7_copy 92 = .ok (.iload 5, 2) := by decide +kernel
theorem dX7_copy_94 : decode cX7_copy 94 = .ok (.invokevirtual 234, 3) := by decide +kernel
theorem dX7_copy_97 : decode cX7_copy 97 = .ok (.ifCond .ne 9, 3) := by decide +kernel
theorem dX7_copy_100 : decode cX7_copy 100 = .ok (.aload_n 0, 1) := by decide +kernel
theorem dX7_copy_101 : decode cX7_copy 101 = .ok (.iconst 0, 1) := by decide +kernel
theorem dX7_copy_102 : decode cX7_copy 102 = .ok (.invokevirtual 56, 3) := by decide +kernel
theorem dX7_copy_105 : decode cX7_copy 105 = .ok (.ireturn, 1) := by decide +kernel
theorem dX7_copy_106 : decode cX7_copy 106 = .ok (.aload 6, 2) := by decide +kernel
theorem dX7_copy_108 : decode cX7_copy 108 = .ok (.getfield 223, 3) := by decide +kernel
theorem dX7_copy_111 : decode cX7_copy 111 = .ok (.iload_n 2, 1) := by decide +kernel
theorem dX7_copy_112 : decode cX7_copy 112 = .ok (.aload 7, 2) := by decide +kernel
theorem dX7_copy_114 : decode cX7_copy 114 = .ok (.getfield 223, 3) := by decide +kernel
theorem dX7_copy_117 : decode cX7_copy 117 = .ok (.iload 4, 2) := by decide +kernel
theorem dX7_copy_119 : decode cX7_copy 119 = .ok (.iload 5, 2) := by decide +kernel
theorem dX7_copy_121 : decode cX7_copy 121 = .ok (.invokestatic 237, 3) := by decide +kernel
theorem dX7_copy_124 : decode cX7_copy 124 = .ok (.iload 5, 2) := by decide +kernel
theorem dX7_copy_126 : decode cX7_copy 126 = .ok (.ireturn, 1) := by decide +kernel
theorem dX7_lays_0 : decode cX7_lays 0 = .ok (.iload_n 1, 1) := by decide +kernel
theorem dX7_lays_1 : decode cX7_lays 1 = .ok (.invokestatic 213, 3) := by decide +kernel
theorem dX7_lays_4 : decode cX7_lays 4 = .ok (.ifCond .ne 9, 3) := by decide +kernel
theorem dX7_lays_7 : decode cX7_lays 7 = .ok (.aload_n 0, 1) := by decide +kernel
theorem dX7_lays_8 : decode cX7_lays 8 = .ok (.iconst 0, 1) := by decide +kernel
theorem dX7_lays_9 : decode cX7_lays 9 = .ok (.invokevirtual 56, 3) := by decide +kernel
theorem dX7_lays_12 : decode cX7_lays 12 = .ok (.ireturn, 1) := by decide +kernel
theorem dX7_lays_13 : decode cX7_lays 13 = .ok (.aload_n 0, 1) := by decide +kernel
theorem dX7_lays_14 : decode cX7_lays 14 = .ok (.getfield 43, 3) := by decide +kernel
theorem dX7_lays_17 : decode cX7_lays 17 = .ok (.iload_n 1, 1) := by decide +kernel
theorem dX7_lays_18 : decode cX7_lays 18 = .ok (.aaload, 1) := by decide +kernel
theorem dX7_lays_19 : decode cX7_lays 19 = .ok (.astore_n 2, 1) := by decide +kernel
theorem dX7_lays_20 : decode cX7_lays 20 = .ok (.aload_n 2, 1) := by decide +kernel
theorem dX7_lays_21 : decode cX7_lays 21 = .ok (.invokevirtual 219, 3) := by decide +kernel
theorem dX7_lays_24 : decode cX7_lays 24 = .ok (.ifCond .eq 9, 3) := by decide +kernel
theorem dX7_lays_27 : decode cX7_lays 27 = .ok (.aload_n 0, 1) := by decide +kernel
theorem dX7_lays_28 : decode cX7_lays 28 = .ok (.iconst 5, 1) := by decide +kernel
theorem dX7_lays_29 : decode cX7_lays 29 = .ok (.invokevirtual 56, 3) := by decide +kernel
theorem dX7_lays_32 : decode cX7_lays 32 = .ok (.ireturn, 1) := by decide +kernel
theorem dX7_lays_33 : decode cX7_lays 33 = .ok (.aload_n 2, 1) := by decide +kernel
theorem dX7_lays_34 : decode cX7_lays 34 = .ok (.getfield 222, 3) := by decide +kernel
theorem dX7_lays_37 : decode cX7_lays 37 = .ok (.aload_n 0, 1) := by decide +kernel
theorem dX7_lays_38 : decode cX7_lays 38 = .ok (.getfield 10, 3) := by decide +kernel
theorem dX7_lays_41 : decode cX7_lays 41 = .ok (.getfield 117, 3) := by decide +kernel
theorem dX7_lays_44 : decode cX7_lays 44 = .ok (.if_icmp .eq 10, 3) := by decide +kernel
theorem dX7_lays_47 : decode cX7_lays 47 = .ok (.aload_n 0, 1) := by decide +kernel
theorem dX7_lays_48 : decode cX7_lays 48 = .ok (.bipush 6, 2) := by decide +kernel
theorem dX7_lays_50 : decode cX7_lays 50 = .ok (.invokevirtual 56, 3) := by decide +kernel
theorem dX7_lays_53 : decode cX7_lays 53 = .ok (.ireturn, 1) := by decide +kernel
theorem dX7_lays_54 : decode cX7_lays 54 = .ok (.aload_n 0, 1) := by decide +kernel
theorem dX7_lays_55 : decode cX7_lays 55 = .ok (.aload_n 2, 1) := by decide +kernel
theorem dX7_lays_56 : decode cX7_lays 56 = .ok (.invokevirtual 243, 3) := by decide +kernel
theorem dX7_lays_59 : decode cX7_lays 59 = .ok (.ifCond .ne 9, 3) := by decide +kernel
theorem dX7_lays_62 : decode cX7_lays 62 = .ok (.aload_n 0, 1) := by decide +kernel
theorem dX7_lays_63 : decode cX7_lays 63 = .ok (.iconst 4, 1) := by decide +kernel
theorem dX7_lays_64 : decode cX7_lays 64 = .ok (.invokevirtual 56, 3) := by decide +kernel
theorem dX7_lays_67 : decode cX7_lays 67 = .ok (.ireturn, 1) := by decide +kernel
theorem dX7_lays_68 : decode cX7_lays 68 = .ok (.iconst 0, 1) := by decide +kernel
theorem dX7_lays_69 : decode cX7_lays 69 = .ok (.istore_n 3, 1) := by decide +kernel
theorem dX7_lays_70 : decode cX7_lays 70 = .ok (.iload_n 3, 1) := by decide +kernel
theorem dX7_lays_71 : decode cX7_lays 71 = .ok (.aload_n 0, 1) := by decide +kernel
theorem dX7_lays_72 : decode cX7_lays 72 = .ok (.getfield 10, 3) := by decide +kernel
theorem dX7_lays_75 : decode cX7_lays 75 = .ok (.getfield 117, 3) := by decide +kernel
theorem dX7_lays_78 : decode cX7_lays 78 = .ok (.if_icmp .ge 25, 3) := by decide +kernel
theorem dX7_lays_81 : decode cX7_lays 81 = .ok (.aload_n 0, 1) := by decide +kernel
theorem dX7_lays_82 : decode cX7_lays 82 = .ok (.getfield 10, 3) := by decide +kernel
theorem dX7_lays_85 : decode cX7_lays 85 = .ok (.getfield 85, 3) := by decide +kernel
theorem dX7_lays_88 : decode cX7_lays 88 = .ok (.iload_n 3, 1) := by decide +kernel
theorem dX7_lays_89 : decode cX7_lays 89 = .ok (.aload_n 2, 1) := by decide +kernel
theorem dX7_lays_90 : decode cX7_lays 90 = .ok (.getfield 223, 3) := by decide +kernel
theorem dX7_lays_93 : decode cX7_lays 93 = .ok (.iload_n 3, 1) := by decide +kernel
theorem dX7_lays_94 : decode cX7_lays 94 = .ok (.laload, 1) := by decide +kernel
theorem dX7_lays_95 : decode cX7_lays 95 = .ok (.l2i, 1) := by decide +kernel
theorem dX7_lays_96 : decode cX7_lays 96 = .ok (.iastore, 1) := by decide +kernel
theorem dX7_lays_97 : decode cX7_lays 97 = .ok (.iinc 3 1, 3) := by decide +kernel
theorem dX7_lays_100 : decode cX7_lays 100 = .ok (.goto (-30), 3) := by decide +kernel
theorem dX7_lays_103 : decode cX7_lays 103 = .ok (.aload_n 0, 1) := by decide +kernel
theorem dX7_lays_104 : decode cX7_lays 104 = .ok (.getfield 10, 3) := by decide +kernel
theorem dX7_lays_107 : decode cX7_lays 107 = .ok (.invokevirtual 113, 3) := by decide +kernel
theorem dX7_lays_110 : decode cX7_lays 110 = .ok (.ireturn, 1) := by decide +kernel
theorem dX7_book_0 : decode cX7_book 0 = .ok (.iload_n 1, 1) := by decide +kernel
theorem dX7_book_1 : decode cX7_book 1 = .ok (.invokestatic 213, 3) := by decide +kernel
theorem dX7_book_4 : decode cX7_book 4 = .ok (.ifCond .ne 9, 3) := by decide +kernel
theorem dX7_book_7 : decode cX7_book 7 = .ok (.aload_n 0, 1) := by decide +kernel
theorem dX7_book_8 : decode cX7_book 8 = .ok (.iconst 0, 1) := by decide +kernel
theorem dX7_book_9 : decode cX7_book 9 = .ok (.invokevirtual 56, 3) := by decide +kernel
theorem dX7_book_12 : decode cX7_book 12 = .ok (.ireturn, 1) := by decide +kernel
theorem dX7_book_13 : decode cX7_book 13 = .ok (.aload_n 0, 1) := by decide +kernel
theorem dX7_book_14 : decode cX7_book 14 = .ok (.getfield 43, 3) := by decide +kernel
theorem dX7_book_17 : decode cX7_book 17 = .ok (.iload_n 1, 1) := by decide +kernel
theorem dX7_book_18 : decode cX7_book 18 = .ok (.aaload, 1) := by decide +kernel
theorem dX7_book_19 : decode cX7_book 19 = .ok (.astore_n 3, 1) := by decide +kernel
theorem dX7_book_20 : decode cX7_book 20 = .ok (.aload_n 3, 1) := by decide +kernel
theorem dX7_book_21 : decode cX7_book 21 = .ok (.invokevirtual 219, 3) := by decide +kernel
theorem dX7_book_24 : decode cX7_book 24 = .ok (.ifCond .eq 9, 3) := by decide +kernel
theorem dX7_book_27 : decode cX7_book 27 = .ok (.aload_n 0, 1) := by decide +kernel
theorem dX7_book_28 : decode cX7_book 28 = .ok (.iconst 5, 1) := by decide +kernel
theorem dX7_book_29 : decode cX7_book 29 = .ok (.invokevirtual 56, 3) := by decide +kernel
theorem dX7_book_32 : decode cX7_book 32 = .ok (.ireturn, 1) := by decide +kernel
theorem dX7_book_33 : decode cX7_book 33 = .ok (.aload_n 0, 1) := by decide +kernel
theorem dX7_book_34 : decode cX7_book 34 = .ok (.getfield 10, 3) := by decide +kernel
theorem dX7_book_37 : decode cX7_book 37 = .ok (.iload_n 2, 1) := by decide +kernel
theorem dX7_book_38 : decode cX7_book 38 = .ok (.invokevirtual 67, 3) := by decide +kernel
theorem dX7_book_41 : decode cX7_book 41 = .ok (.ifCond .ne 9, 3) := by decide +kernel
theorem dX7_book_44 : decode cX7_book 44 = .ok (.aload_n 0, 1) := by decide +kernel
theorem dX7_book_45 : decode cX7_book 45 = .ok (.iconst 0, 1) := by decide +kernel
theorem dX7_book_46 : decode cX7_book 46 = .ok (.invokevirtual 56, 3) := by decide +kernel
theorem dX7_book_49 : decode cX7_book 49 = .ok (.ireturn, 1) := by decide +kernel
theorem dX7_book_50 : decode cX7_book 50 = .ok (.aload_n 0, 1) := by decide +kernel
theorem dX7_book_51 : decode cX7_book 51 = .ok (.getfield 19, 3) := by decide +kernel
theorem dX7_book_54 : decode cX7_book 54 = .ok (.aload_n 0, 1) := by decide +kernel
theorem dX7_book_55 : decode cX7_book 55 = .ok (.getfield 10, 3) := by decide +kernel
theorem dX7_book_58 : decode cX7_book 58 = .ok (.invokevirtual 162, 3) := by decide +kernel
theorem dX7_book_61 : decode cX7_book 61 = .ok (.iconst 0, 1) := by decide +kernel
theorem dX7_book_62 : decode cX7_book 62 = .ok (.istore 4, 2) := by decide +kernel
theorem dX7_book_64 : decode cX7_book 64 = .ok (.iload 4, 2) := by decide +kernel
theorem dX7_book_66 : decode cX7_book 66 = .ok (.aload_n 3, 1) := by decide +kernel
theorem dX7_book_67 : decode cX7_book 67 = .ok (.getfield 222, 3) := by decide +kernel
theorem dX7_book_70 : decode cX7_book 70 = .ok (.if_icmp .ge 32, 3) := by decide +kernel
theorem dX7_book_73 : decode cX7_book 73 = .ok (.aload_n 3, 1) := by decide +kernel
theorem dX7_book_74 : decode cX7_book 74 = .ok (.iload 4, 2) := by decide +kernel
theorem dX7_book_76 : decode cX7_book 76 = .ok (.aload_n 0, 1) := by decide +kernel
theorem dX7_book_77 : decode cX7_book 77 = .ok (.getfield 19, 3) := by decide +kernel
theorem dX7_book_80 : decode cX7_book 80 = .ok (.getfield 76, 3) := by decide +kernel
theorem dX7_book_83 : decode cX7_book 83 = .ok (.iload_n 2, 1) := by decide +kernel
theorem dX7_book_84 : decode cX7_book 84 = .ok (.iaload, 1) := by decide +kernel
theorem dX7_book_85 : decode cX7_book 85 = .ok (.i2l, 1) := by decide +kernel
theorem dX7_book_86 : decode cX7_book 86 = .ok (.invokevirtual 227, 3) := by decide +kernel
theorem dX7_book_89 : decode cX7_book 89 = .ok (.aload_n 0, 1) := by decide +kernel
theorem dX7_book_90 : decode cX7_book 90 = .ok (.getfield 19, 3) := by decide +kernel
theorem dX7_book_93 : decode cX7_book 93 = .ok (.invokevirtual 141, 3) := by decide +kernel
theorem dX7_book_96 : decode cX7_book 96 = .ok (.iinc 4 1, 3) := by decide +kernel
theorem dX7_book_99 : decode cX7_book 99 = .ok (.goto (-35), 3) := by decide +kernel
theorem dX7_book_102 : decode cX7_book 102 = .ok (.aload_n 3, 1) := by decide +kernel
theorem dX7_book_103 : decode cX7_book 103 = .ok (.getfield 222, 3) := by decide +kernel
theorem dX7_book_106 : decode cX7_book 106 = .ok (.ireturn, 1) := by decide +kernel
theorem dX7_read_0 : decode cX7_read 0 = .ok (.iload_n 1, 1) := by decide +kernel
theorem dX7_read_1 : decode cX7_read 1 = .ok (.invokestatic 213, 3) := by decide +kernel
theorem dX7_read_4 : decode cX7_read 4 = .ok (.ifCond .ne 9, 3) := by decide +kernel
theorem dX7_read_7 : decode cX7_read 7 = .ok (.aload_n 0, 1) := by decide +kernel
theorem dX7_read_8 : decode cX7_read 8 = .ok (.iconst 0, 1) := by decide +kernel
theorem dX7_read_9 : decode cX7_read 9 = .ok (.invokevirtual 56, 3) := by decide +kernel
theorem dX7_read_12 : decode cX7_read 12 = .ok (.ireturn, 1) := by decide +kernel
theorem dX7_read_13 : decode cX7_read 13 = .ok (.aload_n 0, 1) := by decide +kernel
theorem dX7_read_14 : decode cX7_read 14 = .ok (.getfield 43, 3) := by decide +kernel
theorem dX7_read_17 : decode cX7_read 17 = .ok (.iload_n 1, 1) := by decide +kernel
theorem dX7_read_18 : decode cX7_read 18 = .ok (.aaload, 1) := by decide +kernel
theorem dX7_read_19 : decode cX7_read 19 = .ok (.astore_n 3, 1) := by decide +kernel
theorem dX7_read_20 : decode cX7_read 20 = .ok (.aload_n 3, 1) := by decide +kernel
theorem dX7_read_21 : decode cX7_read 21 = .ok (.invokevirtual 219, 3) := by decide +kernel
theorem dX7_read_24 : decode cX7_read 24 = .ok (.ifCond .eq 9, 3) := by decide +kernel
theorem dX7_read_27 : decode cX7_read 27 = .ok (.aload_n 0, 1) := by decide +kernel
theorem dX7_read_28 : decode cX7_read 28 = .ok (.iconst 5, 1) := by decide +kernel
theorem dX7_read_29 : decode cX7_read 29 = .ok (.invokevirtual 56, 3) := by decide +kernel
theorem dX7_read_32 : decode cX7_read 32 = .ok (.ireturn, 1) := by decide +kernel
theorem dX7_read_33 : decode cX7_read 33 = .ok (.aload_n 0, 1) := by decide +kernel
theorem dX7_read_34 : decode cX7_read 34 = .ok (.getfield 10, 3) := by decide +kernel
theorem dX7_read_37 : decode cX7_read 37 = .ok (.iload_n 2, 1) := by decide +kernel
theorem dX7_read_38 : decode cX7_read 38 = .ok (.invokevirtual 67, 3) := by decide +kernel
theorem dX7_read_41 : decode cX7_read 41 = .ok (.ifCond .ne 9, 3) := by decide +kernel
theorem dX7_read_44 : decode cX7_read 44 = .ok (.aload_n 0, 1) := by decide +kernel
theorem dX7_read_45 : decode cX7_read 45 = .ok (.iconst 0, 1) := by decide +kernel
theorem dX7_read_46 : decode cX7_read 46 = .ok (.invokevirtual 56, 3) := by decide +kernel
theorem dX7_read_49 : decode cX7_read 49 = .ok (.ireturn, 1) := by decide +kernel
theorem dX7_read_50 : decode cX7_read 50 = .ok (.iconst 0, 1) := by decide +kernel
theorem dX7_read_51 : decode cX7_read 51 = .ok (.istore 4, 2) := by decide +kernel
theorem dX7_read_53 : decode cX7_read 53 = .ok (.iconst 0, 1) := by decide +kernel
theorem dX7_read_54 : decode cX7_read 54 = .ok (.istore 5, 2) := by decide +kernel
theorem dX7_read_56 : decode cX7_read 56 = .ok (.iload 5, 2) := by decide +kernel
theorem dX7_read_58 : decode cX7_read 58 = .ok (.aload_n 0, 1) := by decide +kernel
theorem dX7_read_59 : decode cX7_read 59 = .ok (.getfield 10, 3) := by decide +kernel
theorem dX7_read_62 : decode cX7_read 62 = .ok (.getfield 117, 3) := by decide +kernel
theorem dX7_read_65 : decode cX7_read 65 = .ok (.if_icmp .ge 36, 3) := by decide +kernel
theorem dX7_read_68 : decode cX7_read 68 = .ok (.aload_n 0, 1) := by decide +kernel
theorem dX7_read_69 : decode cX7_read 69 = .ok (.getfield 10, 3) := by decide +kernel
theorem dX7_read_72 : decode cX7_read 72 = .ok (.iload 5, 2) := by decide +kernel
theorem dX7_read_74 : decode cX7_read 74 = .ok (.iload_n 2, 1) := by decide +kernel
theorem dX7_read_75 : decode cX7_read 75 = .ok (.invokevirtual 106, 3) := by decide +kernel
theorem dX7_read_78 : decode cX7_read 78 = .ok (.ifCond .eq 17, 3) := by decide +kernel
theorem dX7_read_81 : decode cX7_read 81 = .ok (.aload_n 0, 1) := by decide +kernel
theorem dX7_read_82 : decode cX7_read 82 = .ok (.iload_n 2, 1) := by decide +kernel
theorem dX7_read_83 : decode cX7_read 83 = .ok (.iload 5, 2) := by decide +kernel
theorem dX7_read_85 : decode cX7_read 85 = .ok (.aload_n 3, 1) := by decide +kernel
theorem dX7_read_86 : decode cX7_read 86 = .ok (.invokevirtual 247, 3) := by decide +kernel
theorem dX7_read_89 : decode cX7_read 89 = .ok (.ifCond .eq 6, 3) := by decide +kernel
theorem dX7_read_92 : decode cX7_read 92 = .ok (.iinc 4 1, 3) := by decide +kernel
theorem dX7_read_95 : decode cX7_read 95 = .ok (.iinc 5 1, 3) := by decide +kernel
theorem dX7_read_98 : decode cX7_read 98 = .ok (.goto (-42), 3) := by decide +kernel
theorem dX7_read_101 : decode cX7_read 101 = .ok (.iload 4, 2) := by decide +kernel
theorem dX7_read_103 : decode cX7_read 103 = .ok (.ireturn, 1) := by decide +kernel
theorem dX7_image_0 : decode cX7_image 0 = .ok (.aload_n 0, 1) := by decide +kernel
theorem dX7_image_1 : decode cX7_image 1 = .ok (.getfield 16, 3) := by decide +kernel
theorem dX7_image_4 : decode cX7_image 4 = .ok (.aload_n 0, 1) := by decide +kernel
theorem dX7_image_5 : decode cX7_image 5 = .ok (.getfield 10, 3) := by decide +kernel
theorem dX7_image_8 : decode cX7_image 8 = .ok (.invokevirtual 162, 3) := by decide +kernel
theorem dX7_image_11 : decode cX7_image 11 = .ok (.aload_n 0, 1) := by decide +kernel
theorem dX7_image_12 : decode cX7_image 12 = .ok (.iconst 1, 1) := by decide +kernel
theorem dX7_image_13 : decode cX7_image 13 = .ok (.putfield 251, 3) := by decide +kernel
theorem dX7_image_16 : decode cX7_image 16 = .ok (.iconst 1, 1) := by decide +kernel
theorem dX7_image_17 : decode cX7_image 17 = .ok (.ireturn, 1) := by decide +kernel
theorem dX7_undo_0 : decode cX7_undo 0 = .ok (.aload_n 0, 1) := by decide +kernel
theorem dX7_undo_1 : decode cX7_undo 1 = .ok (.getfield 251, 3) := by decide +kernel
theorem dX7_undo_4 : decode cX7_undo 4 = .ok (.ifCond .ne 9, 3) := by decide +kernel
theorem dX7_undo_7 : decode cX7_undo 7 = .ok (.aload_n 0, 1) := by decide +kernel
theorem dX7_undo_8 : decode cX7_undo 8 = .ok (.iconst 3, 1) := by decide +kernel
theorem dX7_undo_9 : decode cX7_undo 9 = .ok (.invokevirtual 56, 3) := by decide +kernel
theorem dX7_undo_12 : decode cX7_undo 12 = .ok (.ireturn, 1) := by decide +kernel
theorem dX7_undo_13 : decode cX7_undo 13 = .ok (.aload_n 0, 1) := by decide +kernel
theorem dX7_undo_14 : decode cX7_undo 14 = .ok (.getfield 10, 3) := by decide +kernel
theorem dX7_undo_17 : decode cX7_undo 17 = .ok (.aload_n 0, 1) := by decide +kernel
theorem dX7_undo_18 : decode cX7_undo 18 = .ok (.getfield 16, 3) := by decide +kernel
theorem dX7_undo_21 : decode cX7_undo 21 = .ok (.invokevirtual 162, 3) := by decide +kernel
theorem dX7_undo_24 : decode cX7_undo 24 = .ok (.aload_n 0, 1) := by decide +kernel
theorem dX7_undo_25 : decode cX7_undo 25 = .ok (.getfield 10, 3) := by decide +kernel
theorem dX7_undo_28 : decode cX7_undo 28 = .ok (.getfield 117, 3) := by decide +kernel
theorem dX7_undo_31 : decode cX7_undo 31 = .ok (.ireturn, 1) := by decide +kernel
theorem dX7_tear_0 : decode cX7_tear 0 = .ok (.aload_n 0, 1) := by decide +kernel
theorem dX7_tear_1 : decode cX7_tear 1 = .ok (.getfield 251, 3) := by decide +kernel
theorem dX7_tear_4 : decode cX7_tear 4 = .ok (.ifCond .eq 7, 3) := by decide +kernel
theorem dX7_tear_7 : decode cX7_tear 7 = .ok (.iconst 1, 1) := by decide +kernel
theorem dX7_tear_8 : decode cX7_tear 8 = .ok (.goto 4, 3) := by decide +kernel
theorem dX7_tear_11 : decode cX7_tear 11 = .ok (.iconst 0, 1) := by decide +kernel
theorem dX7_tear_12 : decode cX7_tear 12 = .ok (.istore_n 1, 1) := by decide +kernel
theorem dX7_tear_13 : decode cX7_tear 13 = .ok (.aload_n 0, 1) := by decide +kernel
theorem dX7_tear_14 : decode cX7_tear 14 = .ok (.iconst 0, 1) := by decide +kernel
theorem dX7_tear_15 : decode cX7_tear 15 = .ok (.putfield 251, 3) := by decide +kernel
theorem dX7_tear_18 : decode cX7_tear 18 = .ok (.iload_n 1, 1) := by decide +kernel
theorem dX7_tear_19 : decode cX7_tear 19 = .ok (.ireturn, 1) := by decide +kernel
theorem dX7_count_0 : decode cX7_count 0 = .ok (.iload_n 1, 1) := by decide +kernel
theorem dX7_count_1 : decode cX7_count 1 = .ok (.tableswitch 70 0 3 #[31, 39, 47, 55], 31) := by decide +kernel
theorem dX7_count_32 : decode cX7_count 32 = .ok (.aload_n 0, 1) := by decide +kernel
theorem dX7_count_33 : decode cX7_count 33 = .ok (.getfield 10, 3) := by decide +kernel
theorem dX7_count_36 : decode cX7_count 36 = .ok (.getfield 117, 3) := by decide +kernel
theorem dX7_count_39 : decode cX7_count 39 = .ok (.ireturn, 1) := by decide +kernel
theorem dX7_count_40 : decode cX7_count 40 = .ok (.aload_n 0, 1) := by decide +kernel
theorem dX7_count_41 : decode cX7_count 41 = .ok (.getfield 40, 3) := by decide +kernel
theorem dX7_count_44 : decode cX7_count 44 = .ok (.getfield 205, 3) := by decide +kernel
theorem dX7_count_47 : decode cX7_count 47 = .ok (.ireturn, 1) := by decide +kernel
theorem dX7_count_48 : decode cX7_count 48 = .ok (.aload_n 0, 1) := by decide +kernel
theorem dX7_count_49 : decode cX7_count 49 = .ok (.getfield 10, 3) := by decide +kernel
theorem dX7_count_52 : decode cX7_count 52 = .ok (.getfield 127, 3) := by decide +kernel
theorem dX7_count_55 : decode cX7_count 55 = .ok (.ireturn, 1) := by decide +kernel
theorem dX7_count_56 : decode cX7_count 56 = .ok (.aload_n 0, 1) := by decide +kernel
theorem dX7_count_57 : decode cX7_count 57 = .ok (.getfield 10, 3) := by decide +kernel
theorem dX7_count_60 : decode cX7_count 60 = .ok (.aload_n 0, 1) := by decide +kernel
theorem dX7_count_61 : decode cX7_count 61 = .ok (.getfield 10, 3) := by decide +kernel
theorem dX7_count_64 : decode cX7_count 64 = .ok (.getfield 79, 3) := by decide +kernel
theorem dX7_count_67 : decode cX7_count 67 = .ok (.invokevirtual 137, 3) := by decide +kernel
theorem dX7_count_70 : decode cX7_count 70 = .ok (.ireturn, 1) := by decide +kernel
theorem dX7_count_71 : decode cX7_count 71 = .ok (.aload_n 0, 1) := by decide +kernel
theorem dX7_count_72 : decode cX7_count 72 = .ok (.iconst 0, 1) := by decide +kernel
theorem dX7_count_73 : decode cX7_count 73 = .ok (.invokevirtual 56, 3) := by decide +kernel
theorem dX7_count_76 : decode cX7_count 76 = .ok (.ireturn, 1) := by decide +kernel
theorem dX7_status_0 : decode cX7_status 0 = .ok (.iload_n 1, 1) := by decide +kernel
theorem dX7_status_1 : decode cX7_status 1 = .ok (.iconst (-1), 1) := by decide +kernel
theorem dX7_status_2 : decode cX7_status 2 = .ok (.if_icmp .lt 9, 3) := by decide +kernel
theorem dX7_status_5 : decode cX7_status 5 = .ok (.iload_n 1, 1) := by decide +kernel
theorem dX7_status_6 : decode cX7_status 6 = .ok (.bipush 7, 2) := by decide +kernel
theorem dX7_status_8 : decode cX7_status 8 = .ok (.if_icmp .lt 9, 3) := by decide +kernel
theorem dX7_status_11 : decode cX7_status 11 = .ok (.aload_n 0, 1) := by decide +kernel
theorem dX7_status_12 : decode cX7_status 12 = .ok (.iconst 0, 1) := by decide +kernel
theorem dX7_status_13 : decode cX7_status 13 = .ok (.invokevirtual 56, 3) := by decide +kernel
theorem dX7_status_16 : decode cX7_status 16 = .ok (.ireturn, 1) := by decide +kernel
theorem dX7_status_17 : decode cX7_status 17 = .ok (.iload_n 1, 1) := by decide +kernel
theorem dX7_status_18 : decode cX7_status 18 = .ok (.ifCond .lt 10, 3) := by decide +kernel
theorem dX7_status_21 : decode cX7_status 21 = .ok (.aload_n 0, 1) := by decide +kernel
theorem dX7_status_22 : decode cX7_status 22 = .ok (.getfield 47, 3) := by decide +kernel
theorem dX7_status_25 : decode cX7_status 25 = .ok (.iload_n 1, 1) := by decide +kernel
theorem dX7_status_26 : decode cX7_status 26 = .ok (.iaload, 1) := by decide +kernel
theorem dX7_status_27 : decode cX7_status 27 = .ok (.ireturn, 1) := by decide +kernel
theorem dX7_status_28 : decode cX7_status 28 = .ok (.iconst 0, 1) := by decide +kernel
theorem dX7_status_29 : decode cX7_status 29 = .ok (.istore_n 2, 1) := by decide +kernel
theorem dX7_status_30 : decode cX7_status 30 = .ok (.iconst 0, 1) := by decide +kernel
theorem dX7_status_31 : decode cX7_status 31 = .ok (.istore_n 3, 1) := by decide +kernel
theorem dX7_status_32 : decode cX7_status 32 = .ok (.iload_n 3, 1) := by decide +kernel
theorem dX7_status_33 : decode cX7_status 33 = .ok (.bipush 7, 2) := by decide +kernel
theorem dX7_status_35 : decode cX7_status 35 = .ok (.if_icmp .ge 18, 3) := by decide +kernel
theorem dX7_status_38 : decode cX7_status 38 = .ok (.iload_n 2, 1) := by decide +kernel
theorem dX7_status_39 : decode cX7_status 39 = .ok (.aload_n 0, 1) := by decide +kernel
theorem dX7_status_40 : decode cX7_status 40 = .ok (.getfield 47, 3) := by decide +kernel
theorem dX7_status_43 : decode cX7_status 43 = .ok (.iload_n 3, 1) := by decide +kernel
theorem dX7_status_44 : decode cX7_status 44 = .ok (.iaload, 1) := by decide +kernel
theorem dX7_status_45 : decode cX7_status 45 = .ok (.iadd, 1) := by decide +kernel
theorem dX7_status_46 : decode cX7_status 46 = .ok (.istore_n 2, 1) := by decide +kernel
theorem dX7_status_47 : decode cX7_status 47 = .ok (.iinc 3 1, 3) := by decide +kernel
theorem dX7_status_50 : decode cX7_status 50 = .ok (.goto (-18), 3) := by decide +kernel
theorem dX7_status_53 : decode cX7_status 53 = .ok (.iload_n 2, 1) := by decide +kernel
theorem dX7_status_54 : decode cX7_status 54 = .ok (.ireturn, 1) := by decide +kernel
theorem dX7_finding_0 : decode cX7_finding 0 = .ok (.aload_n 0, 1) := by decide +kernel
theorem dX7_finding_1 : decode cX7_finding 1 = .ok (.getfield 47, 3) := by decide +kernel
theorem dX7_finding_4 : decode cX7_finding 4 = .ok (.iload_n 1, 1) := by decide +kernel
theorem dX7_finding_5 : decode cX7_finding 5 = .ok (.dup2, 1) := by decide +kernel
theorem dX7_finding_6 : decode cX7_finding 6 = .ok (.iaload, 1) := by decide +kernel
theorem dX7_finding_7 : decode cX7_finding 7 = .ok (.iconst 1, 1) := by decide +kernel
theorem dX7_finding_8 : decode cX7_finding 8 = .ok (.iadd, 1) := by decide +kernel
theorem dX7_finding_9 : decode cX7_finding 9 = .ok (.iastore, 1) := by decide +kernel
theorem dX7_finding_10 : decode cX7_finding 10 = .ok (.ldc 255, 2) := by decide +kernel
theorem dX7_finding_12 : decode cX7_finding 12 = .ok (.iload_n 1, 1) := by decide +kernel
theorem dX7_finding_13 : decode cX7_finding 13 = .ok (.isub, 1) := by decide +kernel
theorem dX7_finding_14 : decode cX7_finding 14 = .ok (.ireturn, 1) := by decide +kernel
theorem dX7_isKind_0 : decode cX7_isKind 0 = .ok (.iload_n 0, 1) := by decide +kernel
theorem dX7_isKind_1 : decode cX7_isKind 1 = .ok (.ifCond .lt 13, 3) := by decide +kernel
theorem dX7_isKind_4 : decode cX7_isKind 4 = .ok (.iload_n 0, 1) := by decide +kernel
theorem dX7_isKind_5 : decode cX7_isKind 5 = .ok (.bipush 6, 2) := by decide +kernel
theorem dX7_isKind_7 : decode cX7_isKind 7 = .ok (.if_icmp .ge 7, 3) := by decide +kernel
theorem dX7_isKind_10 : decode cX7_isKind 10 = .ok (.iconst 1, 1) := by decide +kernel
theorem dX7_isKind_11 : decode cX7_isKind 11 = .ok (.goto 4, 3) := by decide +kernel
theorem dX7_isKind_14 : decode cX7_isKind 14 = .ok (.iconst 0, 1) := by decide +kernel
theorem dX7_isKind_15 : decode cX7_isKind 15 = .ok (.ireturn, 1) := by decide +kernel
theorem dX7_isSheet_0 : decode cX7_isSheet 0 = .ok (.iload_n 0, 1) := by decide +kernel
theorem dX7_isSheet_1 : decode cX7_isSheet 1 = .ok (.ifCond .lt 12, 3) := by decide +kernel
theorem dX7_isSheet_4 : decode cX7_isSheet 4 = .ok (.iload_n 0, 1) := by decide +kernel
theorem dX7_isSheet_5 : decode cX7_isSheet 5 = .ok (.iconst 4, 1) := by decide +kernel
theorem dX7_isSheet_6 : decode cX7_isSheet 6 = .ok (.if_icmp .ge 7, 3) := by decide +kernel
theorem dX7_isSheet_9 : decode cX7_isSheet 9 = .ok (.iconst 1, 1) := by decide +kernel
theorem dX7_isSheet_10 : decode cX7_isSheet 10 = .ok (.goto 4, 3) := by decide +kernel
theorem dX7_isSheet_13 : decode cX7_isSheet 13 = .ok (.iconst 0, 1) := by decide +kernel
theorem dX7_isSheet_14 : decode cX7_isSheet 14 = .ok (.ireturn, 1) := by decide +kernel
theorem dX7_replace_0 : decode cX7_replace 0 = .ok (.iload_n 3, 1) := by decide +kernel
theorem dX7_replace_1 : decode cX7_replace 1 = .ok (.ifCond .lt 9, 3) := by decide +kernel
theorem dX7_replace_4 : decode cX7_replace 4 = .ok (.iload_n 3, 1) := by decide +kernel
theorem dX7_replace_5 : decode cX7_replace 5 = .ok (.iload 4, 2) := by decide +kernel
theorem dX7_replace_7 : decode cX7_replace 7 = .ok (.if_icmp .le 9, 3) := by decide +kernel
theorem dX7_replace_10 : decode cX7_replace 10 = .ok (.aload_n 0, 1) := by decide +kernel
theorem dX7_replace_11 : decode cX7_replace 11 = .ok (.iconst 0, 1) := by decide +kernel
theorem dX7_replace_12 : decode cX7_replace 12 = .ok (.invokevirtual 56, 3) := by decide +kernel
theorem dX7_replace_15 : decode cX7_replace 15 = .ok (.ireturn, 1) := by decide +kernel
theorem dX7_replace_16 : decode cX7_replace 16 = .ok (.aload_n 1, 1) := by decide +kernel
theorem dX7_replace_17 : decode cX7_replace 17 = .ok (.iload_n 2, 1) := by decide +kernel
theorem dX7_replace_18 : decode cX7_replace 18 = .ok (.iaload, 1) := by decide +kernel
theorem dX7_replace_19 : decode cX7_replace 19 = .ok (.istore 5, 2) := by decide +kernel
theorem dX7_replace_21 : decode cX7_replace 21 = .ok (.aload_n 1, 1) := by decide +kernel
theorem dX7_replace_22 : decode cX7_replace 22 = .ok (.iload_n 2, 1) := by decide +kernel
theorem dX7_replace_23 : decode cX7_replace 23 = .ok (.iload_n 3, 1) := by decide +kernel
theorem dX7_replace_24 : decode cX7_replace 24 = .ok (.iastore, 1) := by decide +kernel
theorem dX7_replace_25 : decode cX7_replace 25 = .ok (.iload 5, 2) := by decide +kernel
theorem dX7_replace_27 : decode cX7_replace 27 = .ok (.ireturn, 1) := by decide +kernel
theorem dX7_isRightLot_0 : decode cX7_isRightLot 0 = .ok (.iconst 0, 1) := by decide +kernel
theorem dX7_isRightLot_1 : decode cX7_isRightLot 1 = .ok (.istore_n 2, 1) := by decide +kernel
theorem dX7_isRightLot_2 : decode cX7_isRightLot 2 = .ok (.iconst 0, 1) := by decide +kernel
theorem dX7_isRightLot_3 : decode cX7_isRightLot 3 = .ok (.istore_n 3, 1) := by decide +kernel
theorem dX7_isRightLot_4 : decode cX7_isRightLot 4 = .ok (.iload_n 3, 1) := by decide +kernel
theorem dX7_isRightLot_5 : decode cX7_isRightLot 5 = .ok (.aload_n 0, 1) := by decide +kernel
theorem dX7_isRightLot_6 : decode cX7_isRightLot 6 = .ok (.getfield 10, 3) := by decide +kernel
theorem dX7_isRightLot_9 : decode cX7_isRightLot 9 = .ok (.getfield 117, 3) := by decide +kernel
theorem dX7_isRightLot_12 : decode cX7_isRightLot 12 = .ok (.if_icmp .ge 62, 3) := by decide +kernel
theorem dX7_isRightLot_15 : decode cX7_isRightLot 15 = .ok (.aload_n 1, 1) := by decide +kernel
theorem dX7_isRightLot_16 : decode cX7_isRightLot 16 = .ok (.getfield 223, 3) := by decide +kernel
theorem dX7_isRightLot_19 : decode cX7_isRightLot 19 = .ok (.iload_n 3, 1) := by decide +kernel
theorem dX7_isRightLot_20 : decode cX7_isRightLot 20 = .ok (.laload, 1) := by decide +kernel
theorem dX7_isRightLot_21 : decode cX7_isRightLot 21 = .ok (.lstore 4, 2) := by decide +kernel
theorem dX7_isRightLot_23 : decode cX7_isRightLot 23 = .ok (.lload 4, 2) := by decide +kernel
theorem dX7_isRightLot_25 : decode cX7_isRightLot 25 = .ok (.lconst 0, 1) := by decide +kernel
theorem dX7_isRightLot_26 : decode cX7_isRightLot 26 = .ok (.lcmp, 1) := by decide +kernel
theorem dX7_isRightLot_27 : decode cX7_isRightLot 27 = .ok (.ifCond .lt 31, 3) := by decide +kernel
theorem dX7_isRightLot_30 : decode cX7_isRightLot 30 = .ok (.lload 4, 2) := by decide +kernel
theorem dX7_isRightLot_32 : decode cX7_isRightLot 32 = .ok (.aload_n 0, 1) := by decide +kernel
theorem dX7_isRightLot_33 : decode cX7_isRightLot 33 = .ok (.getfield 10, 3) := by decide +kernel
theorem dX7_isRightLot_36 : decode cX7_isRightLot 36 = .ok (.getfield 117, 3) := by decide +kernel
theorem dX7_isRightLot_39 : decode cX7_isRightLot 39 = .ok (.i2l, 1) := by decide +kernel
theorem dX7_isRightLot_40 : decode cX7_isRightLot 40 = .ok (.lcmp, 1) := by decide +kernel
theorem dX7_isRightLot_41 : decode cX7_isRightLot 41 = .ok (.ifCond .ge 17, 3) := by decide +kernel
theorem dX7_isRightLot_44 : decode cX7_isRightLot 44 = .ok (.aload_n 0, 1) := by decide +kernel
theorem dX7_isRightLot_45 : decode cX7_isRightLot 45 = .ok (.getfield 10, 3) := by decide +kernel
theorem dX7_isRightLot_48 : decode cX7_isRightLot 48 = .ok (.iload_n 3, 1) := by decide +kernel
theorem dX7_isRightLot_49 : decode cX7_isRightLot 49 = .ok (.lload 4, 2) := by decide +kernel
theorem dX7_isRightLot_51 : decode cX7_isRightLot 51 = .ok (.l2i, 1) := by decide +kernel
theorem dX7_isRightLot_52 : decode cX7_isRightLot 52 = .ok (.invokevirtual 106, 3) := by decide +kernel
theorem dX7_isRightLot_55 : decode cX7_isRightLot 55 = .ok (.ifCond .ne 5, 3) := by decide +kernel
theorem dX7_isRightLot_58 : decode cX7_isRightLot 58 = .ok (.iconst 0, 1) := by decide +kernel
theorem dX7_isRightLot_59 : decode cX7_isRightLot 59 = .ok (.ireturn, 1) := by decide +kernel
theorem dX7_isRightLot_60 : decode cX7_isRightLot 60 = .ok (.iload_n 2, 1) := by decide +kernel
theorem dX7_isRightLot_61 : decode cX7_isRightLot 61 = .ok (.iconst 1, 1) := by decide +kernel
theorem dX7_isRightLot_62 : decode cX7_isRightLot 62 = .ok (.lload 4, 2) := by decide +kernel
theorem dX7_isRightLot_64 : decode cX7_isRightLot 64 = .ok (.l2i, 1) := by decide +kernel
theorem dX7_isRightLot_65 : decode cX7_isRightLot 65 = .ok (.ishl, 1) := by decide +kernel
theorem dX7_isRightLot_66 : decode cX7_isRightLot 66 = .ok (.ior, 1) := by decide +kernel
theorem dX7_isRightLot_67 : decode cX7_isRightLot 67 = .ok (.istore_n 2, 1) := by decide +kernel
theorem dX7_isRightLot_68 : decode cX7_isRightLot 68 = .ok (.iinc 3 1, 3) := by decide +kernel
theorem dX7_isRightLot_71 : decode cX7_isRightLot 71 = .ok (.goto (-67), 3) := by decide +kernel
theorem dX7_isRightLot_74 : decode cX7_isRightLot 74 = .ok (.iload_n 2, 1) := by decide +kernel
theorem dX7_isRightLot_75 : decode cX7_isRightLot 75 = .ok (.invokestatic 181, 3) := by decide +kernel
theorem dX7_isRightLot_78 : decode cX7_isRightLot 78 = .ok (.aload_n 0, 1) := by decide +kernel
theorem dX7_isRightLot_79 : decode cX7_isRightLot 79 = .ok (.getfield 10, 3) := by decide +kernel
theorem dX7_isRightLot_82 : decode cX7_isRightLot 82 = .ok (.getfield 117, 3) := by decide +kernel
theorem dX7_isRightLot_85 : decode cX7_isRightLot 85 = .ok (.if_icmp .ne 7, 3) := by decide +kernel
theorem dX7_isRightLot_88 : decode cX7_isRightLot 88 = .ok (.iconst 1, 1) := by decide +kernel
theorem dX7_isRightLot_89 : decode cX7_isRightLot 89 = .ok (.goto 4, 3) := by decide +kernel
theorem dX7_isRightLot_92 : decode cX7_isRightLot 92 = .ok (.iconst 0, 1) := by decide +kernel
theorem dX7_isRightLot_93 : decode cX7_isRightLot 93 = .ok (.ireturn, 1) := by decide +kernel
theorem dX7_fitsWith_0 : decode cX7_fitsWith 0 = .ok (.aload_n 0, 1) := by decide +kernel
theorem dX7_fitsWith_1 : decode cX7_fitsWith 1 = .ok (.getfield 19, 3) := by decide +kernel
theorem dX7_fitsWith_4 : decode cX7_fitsWith 4 = .ok (.aload_n 0, 1) := by decide +kernel
theorem dX7_fitsWith_5 : decode cX7_fitsWith 5 = .ok (.getfield 10, 3) := by decide +kernel
theorem dX7_fitsWith_8 : decode cX7_fitsWith 8 = .ok (.invokevirtual 162, 3) := by decide +kernel
theorem dX7_fitsWith_11 : decode cX7_fitsWith 11 = .ok (.aload_n 0, 1) := by decide +kernel
theorem dX7_fitsWith_12 : decode cX7_fitsWith 12 = .ok (.getfield 19, 3) := by decide +kernel
theorem dX7_fitsWith_15 : decode cX7_fitsWith 15 = .ok (.iload_n 1, 1) := by decide +kernel
theorem dX7_fitsWith_16 : decode cX7_fitsWith 16 = .ok (.aload_n 0, 1) := by decide +kernel
theorem dX7_fitsWith_17 : decode cX7_fitsWith 17 = .ok (.getfield 19, 3) := by decide +kernel
theorem dX7_fitsWith_20 : decode cX7_fitsWith 20 = .ok (.iload_n 2, 1) := by decide +kernel
theorem dX7_fitsWith_21 : decode cX7_fitsWith 21 = .ok (.invokevirtual 156, 3) := by decide +kernel
theorem dX7_fitsWith_24 : decode cX7_fitsWith 24 = .ok (.invokevirtual 109, 3) := by decide +kernel
theorem dX7_fitsWith_27 : decode cX7_fitsWith 27 = .ok (.aload_n 0, 1) := by decide +kernel
theorem dX7_fitsWith_28 : decode cX7_fitsWith 28 = .ok (.getfield 19, 3) := by decide +kernel
theorem dX7_fitsWith_31 : decode cX7_fitsWith 31 = .ok (.invokevirtual 141, 3) := by decide +kernel
theorem dX7_fitsWith_34 : decode cX7_fitsWith 34 = .ok (.aload_n 3, 1) := by decide +kernel
theorem dX7_fitsWith_35 : decode cX7_fitsWith 35 = .ok (.getfield 222, 3) := by decide +kernel
theorem dX7_fitsWith_38 : decode cX7_fitsWith 38 = .ok (.aload_n 0, 1) := by decide +kernel
theorem dX7_fitsWith_39 : decode cX7_fitsWith 39 = .ok (.getfield 19, 3) := by decide +kernel
theorem dX7_fitsWith_42 : decode cX7_fitsWith 42 = .ok (.getfield 117, 3) := by decide +kernel
theorem dX7_fitsWith_45 : decode cX7_fitsWith 45 = .ok (.invokestatic 256, 3) := by decide +kernel
theorem dX7_fitsWith_48 : decode cX7_fitsWith 48 = .ok (.istore 4, 2) := by decide +kernel
theorem dX7_fitsWith_50 : decode cX7_fitsWith 50 = .ok (.iconst 0, 1) := by decide +kernel
theorem dX7_fitsWith_51 : decode cX7_fitsWith 51 = .ok (.istore 5, 2) := by decide +kernel
theorem dX7_fitsWith_53 : decode cX7_fitsWith 53 = .ok (.iload 5, 2) := by decide +kernel
theorem dX7_fitsWith_55 : decode cX7_fitsWith 55 = .ok (.iload 4, 2) := by decide +kernel
theorem dX7_fitsWith_57 : decode cX7_fitsWith 57 = .ok (.if_icmp .ge 33, 3) := by decide +kernel
theorem dX7_fitsWith_60 : decode cX7_fitsWith 60 = .ok (.aload_n 3, 1) := by decide +kernel
theorem dX7_fitsWith_61 : decode cX7_fitsWith 61 = .ok (.getfield 223, 3) := by decide +kernel
theorem dX7_fitsWith_64 : decode cX7_fitsWith 64 = .ok (.iload 5, 2) := by decide +kernel
theorem dX7_fitsWith_66 : decode cX7_fitsWith 66 = .ok (.laload, 1) := by decide +kernel
theorem dX7_fitsWith_67 : decode cX7_fitsWith 67 = .ok (.aload_n 0, 1) := by decide +kernel
theorem dX7_fitsWith_68 : decode cX7_fitsWith 68 = .ok (.getfield 19, 3) := by decide +kernel
theorem dX7_fitsWith_71 : decode cX7_fitsWith 71 = .ok (.getfield 76, 3) := by decide +kernel
theorem dX7_fitsWith_74 : decode cX7_fitsWith 74 = .ok (.iload 5, 2) := by decide +kernel
theorem dX7_fitsWith_76 : decode cX7_fitsWith 76 = .ok (.iaload, 1) := by decide +kernel
theorem dX7_fitsWith_77 : decode cX7_fitsWith 77 = .ok (.i2l, 1) := by decide +kernel
theorem dX7_fitsWith_78 : decode cX7_fitsWith 78 = .ok (.lcmp, 1) := by decide +kernel
theorem dX7_fitsWith_79 : decode cX7_fitsWith 79 = .ok (.ifCond .eq 5, 3) := by decide +kernel
theorem dX7_fitsWith_82 : decode cX7_fitsWith 82 = .ok (.iconst 0, 1) := by decide +kernel
theorem dX7_fitsWith_83 : decode cX7_fitsWith 83 = .ok (.ireturn, 1) := by decide +kernel
theorem dX7_fitsWith_84 : decode cX7_fitsWith 84 = .ok (.iinc 5 1, 3) := by decide +kernel
theorem dX7_fitsWith_87 : decode cX7_fitsWith 87 = .ok (.goto (-34), 3) := by decide +kernel
theorem dX7_fitsWith_90 : decode cX7_fitsWith 90 = .ok (.iconst 1, 1) := by decide +kernel
theorem dX7_fitsWith_91 : decode cX7_fitsWith 91 = .ok (.ireturn, 1) := by decide +kernel
