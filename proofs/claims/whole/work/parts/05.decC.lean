theorem dX8_init_0 : decode cX8_init 0 = .ok (.aload_n 0, 1) := by decide +kernel
theorem dX8_init_1 : decode cX8_init 1 = .ok (.invokespecial 1, 3) := by decide +kernel
theorem dX8_init_4 : decode cX8_init 4 = .ok (.aload_n 0, 1) := by decide +kernel
theorem dX8_init_5 : decode cX8_init 5 = .ok (.bipush 51, 2) := by decide +kernel
theorem dX8_init_7 : decode cX8_init 7 = .ok (.newarray .int, 2) := by decide +kernel
theorem dX8_init_9 : decode cX8_init 9 = .ok (.putfield 7, 3) := by decide +kernel
theorem dX8_init_12 : decode cX8_init 12 = .ok (.aload_n 0, 1) := by decide +kernel
theorem dX8_init_13 : decode cX8_init 13 = .ok (.bipush 7, 2) := by decide +kernel
theorem dX8_init_15 : decode cX8_init 15 = .ok (.newarray .int, 2) := by decide +kernel
theorem dX8_init_17 : decode cX8_init 17 = .ok (.putfield 13, 3) := by decide +kernel
theorem dX8_init_20 : decode cX8_init 20 = .ok (.aload_n 0, 1) := by decide +kernel
theorem dX8_init_21 : decode cX8_init 21 = .ok (.bipush 8, 2) := by decide +kernel
theorem dX8_init_23 : decode cX8_init 23 = .ok (.newarray .int, 2) := by decide +kernel
theorem dX8_init_25 : decode cX8_init 25 = .ok (.putfield 16, 3) := by decide +kernel
theorem dX8_init_28 : decode cX8_init 28 = .ok (.aload_n 0, 1) := by decide +kernel
theorem dX8_init_29 : decode cX8_init 29 = .ok (.bipush 8, 2) := by decide +kernel
theorem dX8_init_31 : decode cX8_init 31 = .ok (.newarray .int, 2) := by decide +kernel
theorem dX8_init_33 : decode cX8_init 33 = .ok (.putfield 19, 3) := by decide +kernel
theorem dX8_init_36 : decode cX8_init 36 = .ok (.aload_n 0, 1) := by decide +kernel
theorem dX8_init_37 : decode cX8_init 37 = .ok (.bipush 8, 2) := by decide +kernel
theorem dX8_init_39 : decode cX8_init 39 = .ok (.newarray .int, 2) := by decide +kernel
theorem dX8_init_41 : decode cX8_init 41 = .ok (.putfield 22, 3) := by decide +kernel
theorem dX8_init_44 : decode cX8_init 44 = .ok (.aload_n 0, 1) := by decide +kernel
theorem dX8_init_45 : decode cX8_init 45 = .ok (.bipush 8, 2) := by decide +kernel
theorem dX8_init_47 : decode cX8_init 47 = .ok (.newarray .int, 2) := by decide +kernel
theorem dX8_init_49 : decode cX8_init 49 = .ok (.putfield 25, 3) := by decide +kernel
theorem dX8_init_52 : decode cX8_init 52 = .ok (.aload_n 0, 1) := by decide +kernel
theorem dX8_init_53 : decode cX8_init 53 = .ok (.bipush 51, 2) := by decide +kernel
theorem dX8_init_55 : decode cX8_init 55 = .ok (.newarray .int, 2) := by decide +kernel
theorem dX8_init_57 : decode cX8_init 57 = .ok (.putfield 28, 3) := by decide +kernel
theorem dX8_init_60 : decode cX8_init 60 = .ok (.aload_n 0, 1) := by decide +kernel
theorem dX8_init_61 : decode cX8_init 61 = .ok (.sipush 256, 3) := by decide +kernel
theorem dX8_init_64 : decode cX8_init 64 = .ok (.newarray .int, 2) := by decide +kernel
theorem dX8_init_66 : decode cX8_init 66 = .ok (.putfield 31, 3) := by decide +kernel
theorem dX8_init_69 : decode cX8_init 69 = .ok (.aload_n 0, 1) := by decide +kernel
theorem dX8_init_70 : decode cX8_init 70 = .ok (.bipush 120, 2) := by decide +kernel
theorem dX8_init_72 : decode cX8_init 72 = .ok (.newarray .int, 2) := by decide +kernel
theorem dX8_init_74 : decode cX8_init 74 = .ok (.putfield 34, 3) := by decide +kernel
theorem dX8_init_77 : decode cX8_init 77 = .ok (.aload_n 0, 1) := by decide +kernel
theorem dX8_init_78 : decode cX8_init 78 = .ok (.iconst 4, 1) := by decide +kernel
theorem dX8_init_79 : decode cX8_init 79 = .ok (.newarray .int, 2) := by decide +kernel
theorem dX8_init_81 : decode cX8_init 81 = .ok (.putfield 37, 3) := by decide +kernel
theorem dX8_init_84 : decode cX8_init 84 = .ok (.aload_n 0, 1) := by decide +kernel
theorem dX8_init_85 : decode cX8_init 85 = .ok (.iconst 4, 1) := by decide +kernel
theorem dX8_init_86 : decode cX8_init 86 = .ok (.newarray .int, 2) := by decide +kernel
theorem dX8_init_88 : decode cX8_init 88 = .ok (.putfield 40, 3) := by decide +kernel
theorem dX8_init_91 : decode cX8_init 91 = .ok (.aload_n 0, 1) := by decide +kernel
theorem dX8_init_92 : decode cX8_init 92 = .ok (.sipush 160, 3) := by decide +kernel
theorem dX8_init_95 : decode cX8_init 95 = .ok (.newarray .long, 2) := by decide +kernel
theorem dX8_init_97 : decode cX8_init 97 = .ok (.putfield 43, 3) := by decide +kernel
theorem dX8_init_100 : decode cX8_init 100 = .ok (.aload_n 0, 1) := by decide +kernel
theorem dX8_init_101 : decode cX8_init 101 = .ok (.bipush 40, 2) := by decide +kernel
theorem dX8_init_103 : decode cX8_init 103 = .ok (.newarray .long, 2) := by decide +kernel
theorem dX8_init_105 : decode cX8_init 105 = .ok (.putfield 47, 3) := by decide +kernel
theorem dX8_init_108 : decode cX8_init 108 = .ok (.aload_n 0, 1) := by decide +kernel
theorem dX8_init_109 : decode cX8_init 109 = .ok (.bipush 51, 2) := by decide +kernel
theorem dX8_init_111 : decode cX8_init 111 = .ok (.newarray .int, 2) := by decide +kernel
theorem dX8_init_113 : decode cX8_init 113 = .ok (.putfield 50, 3) := by decide +kernel
theorem dX8_init_116 : decode cX8_init 116 = .ok (.aload_n 0, 1) := by decide +kernel
theorem dX8_init_117 : decode cX8_init 117 = .ok (.bipush 51, 2) := by decide +kernel
theorem dX8_init_119 : decode cX8_init 119 = .ok (.newarray .int, 2) := by decide +kernel
theorem dX8_init_121 : decode cX8_init 121 = .ok (.putfield 53, 3) := by decide +kernel
theorem dX8_init_124 : decode cX8_init 124 = .ok (.aload_n 0, 1) := by decide +kernel
theorem dX8_init_125 : decode cX8_init 125 = .ok (.getfield 7, 3) := by decide +kernel
theorem dX8_init_128 : decode cX8_init 128 = .ok (.iconst 1, 1) := by decide +kernel
theorem dX8_init_129 : decode cX8_init 129 = .ok (.iconst 1, 1) := by decide +kernel
theorem dX8_init_130 : decode cX8_init 130 = .ok (.iastore, 1) := by decide +kernel
theorem dX8_init_131 : decode cX8_init 131 = .ok (.return_, 1) := by decide +kernel
theorem dX8_in_0 : decode cX8_in 0 = .ok (.iload_n 0, 1) := by decide +kernel
theorem dX8_in_1 : decode cX8_in 1 = .ok (.iload_n 1, 1) := by decide +kernel
theorem dX8_in_2 : decode cX8_in 2 = .ok (.if_icmp .lt 12, 3) := by decide +kernel
theorem dX8_in_5 : decode cX8_in 5 = .ok (.iload_n 0, 1) := by decide +kernel
theorem dX8_in_6 : decode cX8_in 6 = .ok (.iload_n 2, 1) := by decide +kernel
theorem dX8_in_7 : decode cX8_in 7 = .ok (.if_icmp .gt 7, 3) := by decide +kernel
theorem dX8_in_10 : decode cX8_in 10 = .ok (.iconst 1, 1) := by decide +kernel
theorem dX8_in_11 : decode cX8_in 11 = .ok (.goto 4, 3) := by decide +kernel
theorem dX8_in_14 : decode cX8_in 14 = .ok (.iconst 0, 1) := by decide +kernel
theorem dX8_in_15 : decode cX8_in 15 = .ok (.ireturn, 1) := by decide +kernel
theorem dX8_finds_0 : decode cX8_finds 0 = .ok (.aload_n 0, 1) := by decide +kernel
theorem dX8_finds_1 : decode cX8_finds 1 = .ok (.getfield 13, 3) := by decide +kernel
theorem dX8_finds_4 : decode cX8_finds 4 = .ok (.ldc 56, 2) := by decide +kernel
theorem dX8_finds_6 : decode cX8_finds 6 = .ok (.iload_n 1, 1) := by decide +kernel
theorem dX8_finds_7 : decode cX8_finds 7 = .ok (.isub, 1) := by decide +kernel
theorem dX8_finds_8 : decode cX8_finds 8 = .ok (.dup2, 1) := by decide +kernel
theorem dX8_finds_9 : decode cX8_finds 9 = .ok (.iaload, 1) := by decide +kernel
theorem dX8_finds_10 : decode cX8_finds 10 = .ok (.iconst 1, 1) := by decide +kernel
theorem dX8_finds_11 : decode cX8_finds 11 = .ok (.iadd, 1) := by decide +kernel
theorem dX8_finds_12 : decode cX8_finds 12 = .ok (.iastore, 1) := by decide +kernel
theorem dX8_finds_13 : decode cX8_finds 13 = .ok (.iload_n 1, 1) := by decide +kernel
theorem dX8_finds_14 : decode cX8_finds 14 = .ok (.ireturn, 1) := by decide +kernel
theorem dX8_held_0 : decode cX8_held 0 = .ok (.iload_n 0, 1) := by decide +kernel
theorem dX8_held_1 : decode cX8_held 1 = .ok (.iload_n 1, 1) := by decide +kernel
theorem dX8_held_2 : decode cX8_held 2 = .ok (.if_icmp .ge 7, 3) := by decide +kernel
theorem dX8_held_5 : decode cX8_held 5 = .ok (.iload_n 1, 1) := by decide +kernel
theorem dX8_held_6 : decode cX8_held 6 = .ok (.goto 13, 3) := by decide +kernel
theorem dX8_held_9 : decode cX8_held 9 = .ok (.iload_n 0, 1) := by decide +kernel
theorem dX8_held_10 : decode cX8_held 10 = .ok (.iload_n 2, 1) := by decide +kernel
theorem dX8_held_11 : decode cX8_held 11 = .ok (.if_icmp .le 7, 3) := by decide +kernel
theorem dX8_held_14 : decode cX8_held 14 = .ok (.iload_n 2, 1) := by decide +kernel
theorem dX8_held_15 : decode cX8_held 15 = .ok (.goto 4, 3) := by decide +kernel
theorem dX8_held_18 : decode cX8_held 18 = .ok (.iload_n 0, 1) := by decide +kernel
theorem dX8_held_19 : decode cX8_held 19 = .ok (.ireturn, 1) := by decide +kernel
theorem dX8_its_0 : decode cX8_its 0 = .ok (.aload_n 0, 1) := by decide +kernel
theorem dX8_its_1 : decode cX8_its 1 = .ok (.getfield 7, 3) := by decide +kernel
theorem dX8_its_4 : decode cX8_its 4 = .ok (.iconst 3, 1) := by decide +kernel
theorem dX8_its_5 : decode cX8_its 5 = .ok (.bipush 6, 2) := by decide +kernel
theorem dX8_its_7 : decode cX8_its 7 = .ok (.iload_n 1, 1) := by decide +kernel
theorem dX8_its_8 : decode cX8_its 8 = .ok (.imul, 1) := by decide +kernel
theorem dX8_its_9 : decode cX8_its 9 = .ok (.iadd, 1) := by decide +kernel
theorem dX8_its_10 : decode cX8_its 10 = .ok (.iload_n 2, 1) := by decide +kernel
theorem dX8_its_11 : decode cX8_its 11 = .ok (.iadd, 1) := by decide +kernel
theorem dX8_its_12 : decode cX8_its 12 = .ok (.iaload, 1) := by decide +kernel
theorem dX8_its_13 : decode cX8_its 13 = .ok (.ireturn, 1) := by decide +kernel
theorem dX8_puts_0 : decode cX8_puts 0 = .ok (.aload_n 0, 1) := by decide +kernel
theorem dX8_puts_1 : decode cX8_puts 1 = .ok (.getfield 7, 3) := by decide +kernel
theorem dX8_puts_4 : decode cX8_puts 4 = .ok (.iconst 3, 1) := by decide +kernel
theorem dX8_puts_5 : decode cX8_puts 5 = .ok (.bipush 6, 2) := by decide +kernel
theorem dX8_puts_7 : decode cX8_puts 7 = .ok (.iload_n 1, 1) := by decide +kernel
theorem dX8_puts_8 : decode cX8_puts 8 = .ok (.imul, 1) := by decide +kernel
theorem dX8_puts_9 : decode cX8_puts 9 = .ok (.iadd, 1) := by decide +kernel
theorem dX8_puts_10 : decode cX8_puts 10 = .ok (.iload_n 2, 1) := by decide +kernel
theorem dX8_puts_11 : decode cX8_puts 11 = .ok (.iadd, 1) := by decide +kernel
theorem dX8_puts_12 : decode cX8_puts 12 = .ok (.iload_n 3, 1) := by decide +kernel
theorem dX8_puts_13 : decode cX8_puts 13 = .ok (.iastore, 1) := by decide +kernel
theorem dX8_puts_14 : decode cX8_puts 14 = .ok (.return_, 1) := by decide +kernel
theorem dX8_becomes_0 : decode cX8_becomes 0 = .ok (.aload_n 0, 1) := by decide +kernel
theorem dX8_becomes_1 : decode cX8_becomes 1 = .ok (.getfield 7, 3) := by decide +kernel
theorem dX8_becomes_4 : decode cX8_becomes 4 = .ok (.iload_n 1, 1) := by decide +kernel
theorem dX8_becomes_5 : decode cX8_becomes 5 = .ok (.iaload, 1) := by decide +kernel
theorem dX8_becomes_6 : decode cX8_becomes 6 = .ok (.istore_n 3, 1) := by decide +kernel
theorem dX8_becomes_7 : decode cX8_becomes 7 = .ok (.aload_n 0, 1) := by decide +kernel
theorem dX8_becomes_8 : decode cX8_becomes 8 = .ok (.getfield 7, 3) := by decide +kernel
theorem dX8_becomes_11 : decode cX8_becomes 11 = .ok (.iload_n 1, 1) := by decide +kernel
theorem dX8_becomes_12 : decode cX8_becomes 12 = .ok (.iload_n 2, 1) := by decide +kernel
theorem dX8_becomes_13 : decode cX8_becomes 13 = .ok (.iastore, 1) := by decide +kernel
theorem dX8_becomes_14 : decode cX8_becomes 14 = .ok (.iload_n 3, 1) := by decide +kernel
theorem dX8_becomes_15 : decode cX8_becomes 15 = .ok (.ireturn, 1) := by decide +kernel
theorem dX8_isOne_0 : decode cX8_isOne 0 = .ok (.iload_n 1, 1) := by decide +kernel
theorem dX8_isOne_1 : decode cX8_isOne 1 = .ok (.iconst 0, 1) := by decide +kernel
theorem dX8_isOne_2 : decode cX8_isOne 2 = .ok (.aload_n 0, 1) := by decide +kernel
theorem dX8_isOne_3 : decode cX8_isOne 3 = .ok (.getfield 7, 3) := by decide +kernel
theorem dX8_isOne_6 : decode cX8_isOne 6 = .ok (.iconst 2, 1) := by decide +kernel
theorem dX8_isOne_7 : decode cX8_isOne 7 = .ok (.iaload, 1) := by decide +kernel
theorem dX8_isOne_8 : decode cX8_isOne 8 = .ok (.iconst 1, 1) := by decide +kernel
theorem dX8_isOne_9 : decode cX8_isOne 9 = .ok (.isub, 1) := by decide +kernel
theorem dX8_isOne_10 : decode cX8_isOne 10 = .ok (.invokestatic 57, 3) := by decide +kernel
theorem dX8_isOne_13 : decode cX8_isOne 13 = .ok (.ireturn, 1) := by decide +kernel
theorem dX8_isKind_0 : decode cX8_isKind 0 = .ok (.iload_n 0, 1) := by decide +kernel
theorem dX8_isKind_1 : decode cX8_isKind 1 = .ok (.iconst 0, 1) := by decide +kernel
theorem dX8_isKind_2 : decode cX8_isKind 2 = .ok (.iconst 5, 1) := by decide +kernel
theorem dX8_isKind_3 : decode cX8_isKind 3 = .ok (.invokestatic 57, 3) := by decide +kernel
theorem dX8_isKind_6 : decode cX8_isKind 6 = .ok (.ireturn, 1) := by decide +kernel
theorem dX8_isChild_0 : decode cX8_isChild 0 = .ok (.aload_n 0, 1) := by decide +kernel
theorem dX8_isChild_1 : decode cX8_isChild 1 = .ok (.iload_n 1, 1) := by decide +kernel
theorem dX8_isChild_2 : decode cX8_isChild 2 = .ok (.iconst 0, 1) := by decide +kernel
theorem dX8_isChild_3 : decode cX8_isChild 3 = .ok (.invokevirtual 61, 3) := by decide +kernel
theorem dX8_isChild_6 : decode cX8_isChild 6 = .ok (.iconst 3, 1) := by decide +kernel
theorem dX8_isChild_7 : decode cX8_isChild 7 = .ok (.if_icmp .ne 7, 3) := by decide +kernel
theorem dX8_isChild_10 : decode cX8_isChild 10 = .ok (.iconst 1, 1) := by decide +kernel
theorem dX8_isChild_11 : decode cX8_isChild 11 = .ok (.goto 4, 3) := by decide +kernel
theorem dX8_isChild_14 : decode cX8_isChild 14 = .ok (.iconst 0, 1) := by decide +kernel
theorem dX8_isChild_15 : decode cX8_isChild 15 = .ok (.ireturn, 1) := by decide +kernel
theorem dX8_areAlike_0 : decode cX8_areAlike 0 = .ok (.aload_n 0, 1) := by decide +kernel
theorem dX8_areAlike_1 : decode cX8_areAlike 1 = .ok (.iload_n 1, 1) := by decide +kernel
theorem dX8_areAlike_2 : decode cX8_areAlike 2 = .ok (.invokevirtual 65, 3) := by decide +kernel
theorem dX8_areAlike_5 : decode cX8_areAlike 5 = .ok (.aload_n 0, 1) := by decide +kernel
theorem dX8_areAlike_6 : decode cX8_areAlike 6 = .ok (.iload_n 2, 1) := by decide +kernel
theorem dX8_areAlike_7 : decode cX8_areAlike 7 = .ok (.invokevirtual 65, 3) := by decide +kernel
theorem dX8_areAlike_10 : decode cX8_areAlike 10 = .ok (.if_icmp .ne 7, 3) := by decide +kernel
theorem dX8_areAlike_13 : decode cX8_areAlike 13 = .ok (.iconst 1, 1) := by decide +kernel
theorem dX8_areAlike_14 : decode cX8_areAlike 14 = .ok (.goto 4, 3) := by decide +kernel
theorem dX8_areAlike_17 : decode cX8_areAlike 17 = .ok (.iconst 0, 1) := by decide +kernel
theorem dX8_areAlike_18 : decode cX8_areAlike 18 = .ok (.ireturn, 1) := by decide +kernel
theorem dX8_earnsAs_0 : decode cX8_earnsAs 0 = .ok (.iload_n 1, 1) := by decide +kernel
theorem dX8_earnsAs_1 : decode cX8_earnsAs 1 = .ok (.iload_n 2, 1) := by decide +kernel
theorem dX8_earnsAs_2 : decode cX8_earnsAs 2 = .ok (.if_icmp .ne 5, 3) := by decide +kernel
theorem dX8_earnsAs_5 : decode cX8_earnsAs 5 = .ok (.iconst 0, 1) := by decide +kernel
theorem dX8_earnsAs_6 : decode cX8_earnsAs 6 = .ok (.ireturn, 1) := by decide +kernel
theorem dX8_earnsAs_7 : decode cX8_earnsAs 7 = .ok (.aload_n 0, 1) := by decide +kernel
theorem dX8_earnsAs_8 : decode cX8_earnsAs 8 = .ok (.iload_n 1, 1) := by decide +kernel
theorem dX8_earnsAs_9 : decode cX8_earnsAs 9 = .ok (.iconst 1, 1) := by decide +kernel
theorem dX8_earnsAs_10 : decode cX8_earnsAs 10 = .ok (.invokevirtual 61, 3) := by decide +kernel
theorem dX8_earnsAs_13 : decode cX8_earnsAs 13 = .ok (.aload_n 0, 1) := by decide +kernel
theorem dX8_earnsAs_14 : decode cX8_earnsAs 14 = .ok (.iload_n 2, 1) := by decide +kernel
theorem dX8_earnsAs_15 : decode cX8_earnsAs 15 = .ok (.iconst 1, 1) := by decide +kernel
theorem dX8_earnsAs_16 : decode cX8_earnsAs 16 = .ok (.invokevirtual 61, 3) := by decide +kernel
theorem dX8_earnsAs_19 : decode cX8_earnsAs 19 = .ok (.iadd, 1) := by decide +kernel
theorem dX8_earnsAs_20 : decode cX8_earnsAs 20 = .ok (.iconst 2, 1) := by decide +kernel
theorem dX8_earnsAs_21 : decode cX8_earnsAs 21 = .ok (.idiv, 1) := by decide +kernel
theorem dX8_earnsAs_22 : decode cX8_earnsAs 22 = .ok (.istore_n 3, 1) := by decide +kernel
theorem dX8_earnsAs_23 : decode cX8_earnsAs 23 = .ok (.aload_n 0, 1) := by decide +kernel
theorem dX8_earnsAs_24 : decode cX8_earnsAs 24 = .ok (.iload_n 1, 1) := by decide +kernel
theorem dX8_earnsAs_25 : decode cX8_earnsAs 25 = .ok (.iconst 3, 1) := by decide +kernel
theorem dX8_earnsAs_26 : decode cX8_earnsAs 26 = .ok (.invokevirtual 61, 3) := by decide +kernel
theorem dX8_earnsAs_29 : decode cX8_earnsAs 29 = .ok (.bipush 50, 2) := by decide +kernel
theorem dX8_earnsAs_31 : decode cX8_earnsAs 31 = .ok (.if_icmp .ge 9, 3) := by decide +kernel
theorem dX8_earnsAs_34 : decode cX8_earnsAs 34 = .ok (.iload_n 3, 1) := by decide +kernel
theorem dX8_earnsAs_35 : decode cX8_earnsAs 35 = .ok (.iconst 4, 1) := by decide +kernel
theorem dX8_earnsAs_36 : decode cX8_earnsAs 36 = .ok (.iadd, 1) := by decide +kernel
theorem dX8_earnsAs_37 : decode cX8_earnsAs 37 = .ok (.goto 4, 3) := by decide +kernel
theorem dX8_earnsAs_40 : decode cX8_earnsAs 40 = .ok (.iload_n 3, 1) := by decide +kernel
theorem dX8_earnsAs_41 : decode cX8_earnsAs 41 = .ok (.istore 4, 2) := by decide +kernel
theorem dX8_earnsAs_43 : decode cX8_earnsAs 43 = .ok (.iload_n 3, 1) := by decide +kernel
theorem dX8_earnsAs_44 : decode cX8_earnsAs 44 = .ok (.iconst 2, 1) := by decide +kernel
theorem dX8_earnsAs_45 : decode cX8_earnsAs 45 = .ok (.iadd, 1) := by decide +kernel
theorem dX8_earnsAs_46 : decode cX8_earnsAs 46 = .ok (.aload_n 0, 1) := by decide +kernel
theorem dX8_earnsAs_47 : decode cX8_earnsAs 47 = .ok (.iload_n 1, 1) := by decide +kernel
theorem dX8_earnsAs_48 : decode cX8_earnsAs 48 = .ok (.iconst 4, 1) := by decide +kernel
theorem dX8_earnsAs_49 : decode cX8_earnsAs 49 = .ok (.invokevirtual 61, 3) := by decide +kernel
theorem dX8_earnsAs_52 : decode cX8_earnsAs 52 = .ok (.iconst 4, 1) := by decide +kernel
theorem dX8_earnsAs_53 : decode cX8_earnsAs 53 = .ok (.idiv, 1) := by decide +kernel
theorem dX8_earnsAs_54 : decode cX8_earnsAs 54 = .ok (.isub, 1) := by decide +kernel
theorem dX8_earnsAs_55 : decode cX8_earnsAs 55 = .ok (.istore 5, 2) := by decide +kernel
theorem dX8_earnsAs_57 : decode cX8_earnsAs 57 = .ok (.aload_n 0, 1) := by decide +kernel
theorem dX8_earnsAs_58 : decode cX8_earnsAs 58 = .ok (.iload_n 1, 1) := by decide +kernel
theorem dX8_earnsAs_59 : decode cX8_earnsAs 59 = .ok (.iconst 0, 1) := by decide +kernel
theorem dX8_earnsAs_60 : decode cX8_earnsAs 60 = .ok (.invokevirtual 61, 3) := by decide +kernel
theorem dX8_earnsAs_63 : decode cX8_earnsAs 63 = .ok (.tableswitch 59 1 5 #[33, 37, 40, 42, 54], 33) := by decide +kernel
theorem dX8_earnsAs_96 : decode cX8_earnsAs 96 = .ok (.iload_n 3, 1) := by decide +kernel
theorem dX8_earnsAs_97 : decode cX8_earnsAs 97 = .ok (.iconst 2, 1) := by decide +kernel
theorem dX8_earnsAs_98 : decode cX8_earnsAs 98 = .ok (.iadd, 1) := by decide +kernel
theorem dX8_earnsAs_99 : decode cX8_earnsAs 99 = .ok (.ireturn, 1) := by decide +kernel
theorem dX8_earnsAs_100 : decode cX8_earnsAs 100 = .ok (.iload 4, 2) := by decide +kernel
theorem dX8_earnsAs_102 : decode cX8_earnsAs 102 = .ok (.ireturn, 1) := by decide +kernel
theorem dX8_earnsAs_103 : decode cX8_earnsAs 103 = .ok (.iconst 1, 1) := by decide +kernel
theorem dX8_earnsAs_104 : decode cX8_earnsAs 104 = .ok (.ireturn, 1) := by decide +kernel
theorem dX8_earnsAs_105 : decode cX8_earnsAs 105 = .ok (.iload 5, 2) := by decide +kernel
theorem dX8_earnsAs_107 : decode cX8_earnsAs 107 = .ok (.ifCond .ge 7, 3) := by decide +kernel
theorem dX8_earnsAs_110 : decode cX8_earnsAs 110 = .ok (.iconst 0, 1) := by decide +kernel
theorem dX8_earnsAs_111 : decode cX8_earnsAs 111 = .ok (.goto 5, 3) := by decide +kernel
theorem dX8_earnsAs_114 : decode cX8_earnsAs 114 = .ok (.iload 5, 2) := by decide +kernel
theorem dX8_earnsAs_116 : decode cX8_earnsAs 116 = .ok (.ireturn, 1) := by decide +kernel
theorem dX8_earnsAs_117 : decode cX8_earnsAs 117 = .ok (.iconst 2, 1) := by decide +kernel
theorem dX8_earnsAs_118 : decode cX8_earnsAs 118 = .ok (.iload 4, 2) := by decide +kernel
theorem dX8_earnsAs_120 : decode cX8_earnsAs 120 = .ok (.imul, 1) := by decide +kernel
theorem dX8_earnsAs_121 : decode cX8_earnsAs 121 = .ok (.ireturn, 1) := by decide +kernel
theorem dX8_earnsAs_122 : decode cX8_earnsAs 122 = .ok (.iload_n 3, 1) := by decide +kernel
theorem dX8_earnsAs_123 : decode cX8_earnsAs 123 = .ok (.ireturn, 1) := by decide +kernel
theorem dX8_saysAs_0 : decode cX8_saysAs 0 = .ok (.iload_n 1, 1) := by decide +kernel
theorem dX8_saysAs_1 : decode cX8_saysAs 1 = .ok (.iload_n 2, 1) := by decide +kernel
theorem dX8_saysAs_2 : decode cX8_saysAs 2 = .ok (.if_icmp .ne 5, 3) := by decide +kernel
theorem dX8_saysAs_5 : decode cX8_saysAs 5 = .ok (.iconst 0, 1) := by decide +kernel
theorem dX8_saysAs_6 : decode cX8_saysAs 6 = .ok (.ireturn, 1) := by decide +kernel
theorem dX8_saysAs_7 : decode cX8_saysAs 7 = .ok (.aload_n 0, 1) := by decide +kernel
theorem dX8_saysAs_8 : decode cX8_saysAs 8 = .ok (.iload_n 1, 1) := by decide +kernel
theorem dX8_saysAs_9 : decode cX8_saysAs 9 = .ok (.iconst 1, 1) := by decide +kernel
theorem dX8_saysAs_10 : decode cX8_saysAs 10 = .ok (.invokevirtual 61, 3) := by decide +kernel
theorem dX8_saysAs_13 : decode cX8_saysAs 13 = .ok (.aload_n 0, 1) := by decide +kernel
theorem dX8_saysAs_14 : decode cX8_saysAs 14 = .ok (.iload_n 2, 1) := by decide +kernel
theorem dX8_saysAs_15 : decode cX8_saysAs 15 = .ok (.iconst 1, 1) := by decide +kernel
theorem dX8_saysAs_16 : decode cX8_saysAs 16 = .ok (.invokevirtual 61, 3) := by decide +kernel
theorem dX8_saysAs_19 : decode cX8_saysAs 19 = .ok (.if_icmp .lt 7, 3) := by decide +kernel
theorem dX8_saysAs_22 : decode cX8_saysAs 22 = .ok (.iconst 1, 1) := by decide +kernel
theorem dX8_saysAs_23 : decode cX8_saysAs 23 = .ok (.goto 4, 3) := by decide +kernel
theorem dX8_saysAs_26 : decode cX8_saysAs 26 = .ok (.iconst (-1), 1) := by decide +kernel
theorem dX8_saysAs_27 : decode cX8_saysAs 27 = .ok (.istore_n 3, 1) := by decide +kernel
theorem dX8_saysAs_28 : decode cX8_saysAs 28 = .ok (.aload_n 0, 1) := by decide +kernel
theorem dX8_saysAs_29 : decode cX8_saysAs 29 = .ok (.iload_n 1, 1) := by decide +kernel
theorem dX8_saysAs_30 : decode cX8_saysAs 30 = .ok (.iconst 0, 1) := by decide +kernel
theorem dX8_saysAs_31 : decode cX8_saysAs 31 = .ok (.invokevirtual 61, 3) := by decide +kernel
theorem dX8_saysAs_34 : decode cX8_saysAs 34 = .ok (.tableswitch 41 2 5 #[30, 32, 34, 38], 30) := by decide +kernel
theorem dX8_saysAs_64 : decode cX8_saysAs 64 = .ok (.iconst 3, 1) := by decide +kernel
theorem dX8_saysAs_65 : decode cX8_saysAs 65 = .ok (.ireturn, 1) := by decide +kernel
theorem dX8_saysAs_66 : decode cX8_saysAs 66 = .ok (.iconst 0, 1) := by decide +kernel
theorem dX8_saysAs_67 : decode cX8_saysAs 67 = .ok (.ireturn, 1) := by decide +kernel
theorem dX8_saysAs_68 : decode cX8_saysAs 68 = .ok (.iload_n 3, 1) := by decide +kernel
theorem dX8_saysAs_69 : decode cX8_saysAs 69 = .ok (.iconst 1, 1) := by decide +kernel
theorem dX8_saysAs_70 : decode cX8_saysAs 70 = .ok (.iadd, 1) := by decide +kernel
theorem dX8_saysAs_71 : decode cX8_saysAs 71 = .ok (.ireturn, 1) := by decide +kernel
theorem dX8_saysAs_72 : decode cX8_saysAs 72 = .ok (.bipush (-2), 2) := by decide +kernel
theorem dX8_saysAs_74 : decode cX8_saysAs 74 = .ok (.ireturn, 1) := by decide +kernel
theorem dX8_saysAs_75 : decode cX8_saysAs 75 = .ok (.iload_n 3, 1) := by decide +kernel
theorem dX8_saysAs_76 : decode cX8_saysAs 76 = .ok (.ireturn, 1) := by decide +kernel
theorem dX8_hearsAs_0 : decode cX8_hearsAs 0 = .ok (.iload_n 1, 1) := by decide +kernel
theorem dX8_hearsAs_1 : decode cX8_hearsAs 1 = .ok (.iload_n 2, 1) := by decide +kernel
theorem dX8_hearsAs_2 : decode cX8_hearsAs 2 = .ok (.if_icmp .ne 5, 3) := by decide +kernel
theorem dX8_hearsAs_5 : decode cX8_hearsAs 5 = .ok (.iconst 0, 1) := by decide +kernel
theorem dX8_hearsAs_6 : decode cX8_hearsAs 6 = .ok (.ireturn, 1) := by decide +kernel
theorem dX8_hearsAs_7 : decode cX8_hearsAs 7 = .ok (.aload_n 0, 1) := by decide +kernel
theorem dX8_hearsAs_8 : decode cX8_hearsAs 8 = .ok (.iload_n 2, 1) := by decide +kernel
theorem dX8_hearsAs_9 : decode cX8_hearsAs 9 = .ok (.iconst 3, 1) := by decide +kernel
theorem dX8_hearsAs_10 : decode cX8_hearsAs 10 = .ok (.invokevirtual 61, 3) := by decide +kernel
theorem dX8_hearsAs_13 : decode cX8_hearsAs 13 = .ok (.bipush 20, 2) := by decide +kernel
theorem dX8_hearsAs_15 : decode cX8_hearsAs 15 = .ok (.if_icmp .ge 7, 3) := by decide +kernel
theorem dX8_hearsAs_18 : decode cX8_hearsAs 18 = .ok (.iconst 2, 1) := by decide +kernel
theorem dX8_hearsAs_19 : decode cX8_hearsAs 19 = .ok (.goto 4, 3) := by decide +kernel
theorem dX8_hearsAs_22 : decode cX8_hearsAs 22 = .ok (.iconst 0, 1) := by decide +kernel
theorem dX8_hearsAs_23 : decode cX8_hearsAs 23 = .ok (.istore_n 3, 1) := by decide +kernel
theorem dX8_hearsAs_24 : decode cX8_hearsAs 24 = .ok (.aload_n 0, 1) := by decide +kernel
theorem dX8_hearsAs_25 : decode cX8_hearsAs 25 = .ok (.iload_n 1, 1) := by decide +kernel
theorem dX8_hearsAs_26 : decode cX8_hearsAs 26 = .ok (.iconst 0, 1) := by decide +kernel
theorem dX8_hearsAs_27 : decode cX8_hearsAs 27 = .ok (.invokevirtual 61, 3) := by decide +kernel
theorem dX8_hearsAs_30 : decode cX8_hearsAs 30 = .ok (.tableswitch 40 2 5 #[30, 34, 36, 30], 30) := by decide +kernel
theorem dX8_hearsAs_60 : decode cX8_hearsAs 60 = .ok (.iconst 2, 1) := by decide +kernel
theorem dX8_hearsAs_61 : decode cX8_hearsAs 61 = .ok (.iload_n 3, 1) := by decide +kernel
theorem dX8_hearsAs_62 : decode cX8_hearsAs 62 = .ok (.imul, 1) := by decide +kernel
theorem dX8_hearsAs_63 : decode cX8_hearsAs 63 = .ok (.ireturn, 1) := by decide +kernel
theorem dX8_hearsAs_64 : decode cX8_hearsAs 64 = .ok (.iconst 0, 1) := by decide +kernel
theorem dX8_hearsAs_65 : decode cX8_hearsAs 65 = .ok (.ireturn, 1) := by decide +kernel
theorem dX8_hearsAs_66 : decode cX8_hearsAs 66 = .ok (.iload_n 3, 1) := by decide +kernel
theorem dX8_hearsAs_67 : decode cX8_hearsAs 67 = .ok (.iconst 1, 1) := by decide +kernel
theorem dX8_hearsAs_68 : decode cX8_hearsAs 68 = .ok (.iadd, 1) := by decide +kernel
theorem dX8_hearsAs_69 : decode cX8_hearsAs 69 = .ok (.ireturn, 1) := by decide +kernel
theorem dX8_hearsAs_70 : decode cX8_hearsAs 70 = .ok (.iload_n 3, 1) := by decide +kernel
theorem dX8_hearsAs_71 : decode cX8_hearsAs 71 = .ok (.ireturn, 1) := by decide +kernel
theorem dX8_earns_0 : decode cX8_earns 0 = .ok (.aload_n 0, 1) := by decide +kernel
theorem dX8_earns_1 : decode cX8_earns 1 = .ok (.iload_n 1, 1) := by decide +kernel
theorem dX8_earns_2 : decode cX8_earns 2 = .ok (.aload_n 0, 1) := by decide +kernel
theorem dX8_earns_3 : decode cX8_earns 3 = .ok (.iload_n 1, 1) := by decide +kernel
theorem dX8_earns_4 : decode cX8_earns 4 = .ok (.iconst 5, 1) := by decide +kernel
theorem dX8_earns_5 : decode cX8_earns 5 = .ok (.invokevirtual 61, 3) := by decide +kernel
theorem dX8_earns_8 : decode cX8_earns 8 = .ok (.invokevirtual 69, 3) := by decide +kernel
theorem dX8_earns_11 : decode cX8_earns 11 = .ok (.ireturn, 1) := by decide +kernel
theorem dX8_earnAll_0 : decode cX8_earnAll 0 = .ok (.iconst 0, 1) := by decide +kernel
theorem dX8_earnAll_1 : decode cX8_earnAll 1 = .ok (.istore_n 1, 1) := by decide +kernel
theorem dX8_earnAll_2 : decode cX8_earnAll 2 = .ok (.iconst 0, 1) := by decide +kernel
theorem dX8_earnAll_3 : decode cX8_earnAll 3 = .ok (.istore_n 2, 1) := by decide +kernel
theorem dX8_earnAll_4 : decode cX8_earnAll 4 = .ok (.iload_n 2, 1) := by decide +kernel
theorem dX8_earnAll_5 : decode cX8_earnAll 5 = .ok (.aload_n 0, 1) := by decide +kernel
theorem dX8_earnAll_6 : decode cX8_earnAll 6 = .ok (.getfield 7, 3) := by decide +kernel
theorem dX8_earnAll_9 : decode cX8_earnAll 9 = .ok (.iconst 2, 1) := by decide +kernel
theorem dX8_earnAll_10 : decode cX8_earnAll 10 = .ok (.iaload, 1) := by decide +kernel
theorem dX8_earnAll_11 : decode cX8_earnAll 11 = .ok (.if_icmp .ge 17, 3) := by decide +kernel
theorem dX8_earnAll_14 : decode cX8_earnAll 14 = .ok (.iload_n 1, 1) := by decide +kernel
theorem dX8_earnAll_15 : decode cX8_earnAll 15 = .ok (.aload_n 0, 1) := by decide +kernel
theorem dX8_earnAll_16 : decode cX8_earnAll 16 = .ok (.iload_n 2, 1) := by decide +kernel
theorem dX8_earnAll_17 : decode cX8_earnAll 17 = .ok (.invokevirtual 72, 3) := by decide +kernel
theorem dX8_earnAll_20 : decode cX8_earnAll 20 = .ok (.iadd, 1) := by decide +kernel
theorem dX8_earnAll_21 : decode cX8_earnAll 21 = .ok (.istore_n 1, 1) := by decide +kernel
theorem dX8_earnAll_22 : decode cX8_earnAll 22 = .ok (.iinc 2 1, 3) := by decide +kernel
theorem dX8_earnAll_25 : decode cX8_earnAll 25 = .ok (.goto (-21), 3) := by decide +kernel
theorem dX8_earnAll_28 : decode cX8_earnAll 28 = .ok (.iload_n 1, 1) := by decide +kernel
theorem dX8_earnAll_29 : decode cX8_earnAll 29 = .ok (.ireturn, 1) := by decide +kernel
theorem dX8_sumOf_0 : decode cX8_sumOf 0 = .ok (.iconst 0, 1) := by decide +kernel
theorem dX8_sumOf_1 : decode cX8_sumOf 1 = .ok (.istore_n 2, 1) := by decide +kernel
theorem dX8_sumOf_2 : decode cX8_sumOf 2 = .ok (.iconst 0, 1) := by decide +kernel
theorem dX8_sumOf_3 : decode cX8_sumOf 3 = .ok (.istore_n 3, 1) := by decide +kernel
theorem dX8_sumOf_4 : decode cX8_sumOf 4 = .ok (.iload_n 3, 1) := by decide +kernel
theorem dX8_sumOf_5 : decode cX8_sumOf 5 = .ok (.aload_n 0, 1) := by decide +kernel
theorem dX8_sumOf_6 : decode cX8_sumOf 6 = .ok (.getfield 7, 3) := by decide +kernel
theorem dX8_sumOf_9 : decode cX8_sumOf 9 = .ok (.iconst 2, 1) := by decide +kernel
theorem dX8_sumOf_10 : decode cX8_sumOf 10 = .ok (.iaload, 1) := by decide +kernel
theorem dX8_sumOf_11 : decode cX8_sumOf 11 = .ok (.if_icmp .ge 18, 3) := by decide +kernel
theorem dX8_sumOf_14 : decode cX8_sumOf 14 = .ok (.iload_n 2, 1) := by decide +kernel
theorem dX8_sumOf_15 : decode cX8_sumOf 15 = .ok (.aload_n 0, 1) := by decide +kernel
theorem dX8_sumOf_16 : decode cX8_sumOf 16 = .ok (.iload_n 3, 1) := by decide +kernel
theorem dX8_sumOf_17 : decode cX8_sumOf 17 = .ok (.iload_n 1, 1) := by decide +kernel
theorem dX8_sumOf_18 : decode cX8_sumOf 18 = .ok (.invokevirtual 61, 3) := by decide +kernel
theorem dX8_sumOf_21 : decode cX8_sumOf 21 = .ok (.iadd, 1) := by decide +kernel
theorem dX8_sumOf_22 : decode cX8_sumOf 22 = .ok (.istore_n 2, 1) := by decide +kernel
theorem dX8_sumOf_23 : decode cX8_sumOf 23 = .ok (.iinc 3 1, 3) := by decide +kernel
theorem dX8_sumOf_26 : decode cX8_sumOf 26 = .ok (.goto (-22), 3) := by decide +kernel
theorem dX8_sumOf_29 : decode cX8_sumOf 29 = .ok (.iload_n 2, 1) := by decide +kernel
theorem dX8_sumOf_30 : decode cX8_sumOf 30 = .ok (.ireturn, 1) := by decide +kernel
theorem dX8_adds_0 : decode cX8_adds 0 = .ok (.aload_n 0, 1) := by decide +kernel
theorem dX8_adds_1 : decode cX8_adds 1 = .ok (.getfield 7, 3) := by decide +kernel
theorem dX8_adds_4 : decode cX8_adds 4 = .ok (.iconst 2, 1) := by decide +kernel
theorem dX8_adds_5 : decode cX8_adds 5 = .ok (.iaload, 1) := by decide +kernel
theorem dX8_adds_6 : decode cX8_adds 6 = .ok (.istore 5, 2) := by decide +kernel
theorem dX8_adds_8 : decode cX8_adds 8 = .ok (.aload_n 0, 1) := by decide +kernel
theorem dX8_adds_9 : decode cX8_adds 9 = .ok (.iload 5, 2) := by decide +kernel
theorem dX8_adds_11 : decode cX8_adds 11 = .ok (.iconst 0, 1) := by decide +kernel
theorem dX8_adds_12 : decode cX8_adds 12 = .ok (.iload_n 1, 1) := by decide +kernel
theorem dX8_adds_13 : decode cX8_adds 13 = .ok (.invokevirtual 76, 3) := by decide +kernel
theorem dX8_adds_16 : decode cX8_adds 16 = .ok (.aload_n 0, 1) := by decide +kernel
theorem dX8_adds_17 : decode cX8_adds 17 = .ok (.iload 5, 2) := by decide +kernel
theorem dX8_adds_19 : decode cX8_adds 19 = .ok (.iconst 1, 1) := by decide +kernel
theorem dX8_adds_20 : decode cX8_adds 20 = .ok (.iload_n 2, 1) := by decide +kernel
theorem dX8_adds_21 : decode cX8_adds 21 = .ok (.invokevirtual 76, 3) := by decide +kernel
theorem dX8_adds_24 : decode cX8_adds 24 = .ok (.aload_n 0, 1) := by decide +kernel
theorem dX8_adds_25 : decode cX8_adds 25 = .ok (.iload 5, 2) := by decide +kernel
theorem dX8_adds_27 : decode cX8_adds 27 = .ok (.iconst 2, 1) := by decide +kernel
theorem dX8_adds_28 : decode cX8_adds 28 = .ok (.iload_n 3, 1) := by decide +kernel
theorem dX8_adds_29 : decode cX8_adds 29 = .ok (.invokevirtual 76, 3) := by decide +kernel
theorem dX8_adds_32 : decode cX8_adds 32 = .ok (.aload_n 0, 1) := by decide +kernel
theorem dX8_adds_33 : decode cX8_adds 33 = .ok (.iload 5, 2) := by decide +kernel
theorem dX8_adds_35 : decode cX8_adds 35 = .ok (.iconst 3, 1) := by decide +kernel
theorem dX8_adds_36 : decode cX8_adds 36 = .ok (.iload 4, 2) := by decide +kernel
theorem dX8_adds_38 : decode cX8_adds 38 = .ok (.invokevirtual 76, 3) := by decide +kernel
theorem dX8_adds_41 : decode cX8_adds 41 = .ok (.aload_n 0, 1) := by decide +kernel
theorem dX8_adds_42 : decode cX8_adds 42 = .ok (.iload 5, 2) := by decide +kernel
theorem dX8_adds_44 : decode cX8_adds 44 = .ok (.iconst 4, 1) := by decide +kernel
theorem dX8_adds_45 : decode cX8_adds 45 = .ok (.iconst 0, 1) := by decide +kernel
theorem dX8_adds_46 : decode cX8_adds 46 = .ok (.invokevirtual 76, 3) := by decide +kernel
theorem dX8_adds_49 : decode cX8_adds 49 = .ok (.aload_n 0, 1) := by decide +kernel
theorem dX8_adds_50 : decode cX8_adds 50 = .ok (.iload 5, 2) := by decide +kernel
theorem dX8_adds_52 : decode cX8_adds 52 = .ok (.iconst 5, 1) := by decide +kernel
theorem dX8_adds_53 : decode cX8_adds 53 = .ok (.iload 5, 2) := by decide +kernel
theorem dX8_adds_55 : decode cX8_adds 55 = .ok (.invokevirtual 76, 3) := by decide +kernel
theorem dX8_adds_58 : decode cX8_adds 58 = .ok (.aload_n 0, 1) := by decide +kernel
theorem dX8_adds_59 : decode cX8_adds 59 = .ok (.getfield 7, 3) := by decide +kernel
theorem dX8_adds_62 : decode cX8_adds 62 = .ok (.iconst 2, 1) := by decide +kernel
theorem dX8_adds_63 : decode cX8_adds 63 = .ok (.dup2, 1) := by decide +kernel
theorem dX8_adds_64 : decode cX8_adds 64 = .ok (.iaload, 1) := by decide +kernel
theorem dX8_adds_65 : decode cX8_adds 65 = .ok (.iconst 1, 1) := by decide +kernel
theorem dX8_adds_66 : decode cX8_adds 66 = .ok (.iadd, 1) := by decide +kernel
theorem dX8_adds_67 : decode cX8_adds 67 = .ok (.iastore, 1) := by decide +kernel
theorem dX8_adds_68 : decode cX8_adds 68 = .ok (.return_, 1) := by decide +kernel
theorem dX8_person_0 : decode cX8_person 0 = .ok (.iload_n 1, 1) := by decide +kernel
theorem dX8_person_1 : decode cX8_person 1 = .ok (.invokestatic 80, 3) := by decide +kernel
theorem dX8_person_4 : decode cX8_person 4 = .ok (.ifCond .ne 10, 3) := by decide +kernel
theorem dX8_person_7 : decode cX8_person 7 = .ok (.aload_n 0, 1) := by decide +kernel
theorem dX8_person_8 : decode cX8_person 8 = .ok (.ldc 56, 2) := by decide +kernel
theorem dX8_person_10 : decode cX8_person 10 = .ok (.invokevirtual 83, 3) := by decide +kernel
theorem dX8_person_13 : decode cX8_person 13 = .ok (.ireturn, 1) := by decide +kernel
theorem dX8_person_14 : decode cX8_person 14 = .ok (.aload_n 0, 1) := by decide +kernel
theorem dX8_person_15 : decode cX8_person 15 = .ok (.getfield 7, 3) := by decide +kernel
theorem dX8_person_18 : decode cX8_person 18 = .ok (.iconst 2, 1) := by decide +kernel
theorem dX8_person_19 : decode cX8_person 19 = .ok (.iaload, 1) := by decide +kernel
theorem dX8_person_20 : decode cX8_person 20 = .ok (.bipush 8, 2) := by decide +kernel
theorem dX8_person_22 : decode cX8_person 22 = .ok (.if_icmp .ne 10, 3) := by decide +kernel
theorem dX8_person_25 : decode cX8_person 25 = .ok (.aload_n 0, 1) := by decide +kernel
theorem dX8_person_26 : decode cX8_person 26 = .ok (.ldc 86, 2) := by decide +kernel
theorem dX8_person_28 : decode cX8_person 28 = .ok (.invokevirtual 83, 3) := by decide +kernel
theorem dX8_person_31 : decode cX8_person 31 = .ok (.ireturn, 1) := by decide +kernel
theorem dX8_person_32 : decode cX8_person 32 = .ok (.aload_n 0, 1) := by decide +kernel
theorem dX8_person_33 : decode cX8_person 33 = .ok (.iload_n 1, 1) := by decide +kernel
theorem dX8_person_34 : decode cX8_person 34 = .ok (.iconst 5, 1) := by decide +kernel
theorem dX8_person_35 : decode cX8_person 35 = .ok (.bipush 10, 2) := by decide +kernel
theorem dX8_person_37 : decode cX8_person 37 = .ok (.bipush 50, 2) := by decide +kernel
theorem dX8_person_39 : decode cX8_person 39 = .ok (.invokevirtual 87, 3) := by decide +kernel
theorem dX8_person_42 : decode cX8_person 42 = .ok (.aload_n 0, 1) := by decide +kernel
theorem dX8_person_43 : decode cX8_person 43 = .ok (.getfield 7, 3) := by decide +kernel
theorem dX8_person_46 : decode cX8_person 46 = .ok (.iconst 2, 1) := by decide +kernel
theorem dX8_person_47 : decode cX8_person 47 = .ok (.iaload, 1) := by decide +kernel
theorem dX8_person_48 : decode cX8_person 48 = .ok (.iconst 1, 1) := by decide +kernel
theorem dX8_person_49 : decode cX8_person 49 = .ok (.isub, 1) := by decide +kernel
theorem dX8_person_50 : decode cX8_person 50 = .ok (.ireturn, 1) := by decide +kernel
theorem dX8_of_0 : decode cX8_of 0 = .ok (.aload_n 0, 1) := by decide +kernel
theorem dX8_of_1 : decode cX8_of 1 = .ok (.iload_n 1, 1) := by decide +kernel
theorem dX8_of_2 : decode cX8_of 2 = .ok (.invokevirtual 91, 3) := by decide +kernel
theorem dX8_of_5 : decode cX8_of 5 = .ok (.ifCond .eq 13, 3) := by decide +kernel
theorem dX8_of_8 : decode cX8_of 8 = .ok (.iload_n 2, 1) := by decide +kernel
theorem dX8_of_9 : decode cX8_of 9 = .ok (.iconst 0, 1) := by decide +kernel
theorem dX8_of_10 : decode cX8_of 10 = .ok (.bipush 6, 2) := by decide +kernel
theorem dX8_of_12 : decode cX8_of 12 = .ok (.invokestatic 57, 3) := by decide +kernel
theorem dX8_of_15 : decode cX8_of 15 = .ok (.ifCond .ne 10, 3) := by decide +kernel
theorem dX8_of_18 : decode cX8_of 18 = .ok (.aload_n 0, 1) := by decide +kernel
theorem dX8_of_19 : decode cX8_of 19 = .ok (.ldc 56, 2) := by decide +kernel
theorem dX8_of_21 : decode cX8_of 21 = .ok (.invokevirtual 83, 3) := by decide +kernel
theorem dX8_of_24 : decode cX8_of 24 = .ok (.ireturn, 1) := by decide +kernel
theorem dX8_of_25 : decode cX8_of 25 = .ok (.iload_n 2, 1) := by decide +kernel
theorem dX8_of_26 : decode cX8_of 26 = .ok (.bipush 6, 2) := by decide +kernel
theorem dX8_of_28 : decode cX8_of 28 = .ok (.if_icmp .ge 12, 3) := by decide +kernel
theorem dX8_of_31 : decode cX8_of 31 = .ok (.aload_n 0, 1) := by decide +kernel
theorem dX8_of_32 : decode cX8_of 32 = .ok (.iload_n 1, 1) := by decide +kernel
theorem dX8_of_33 : decode cX8_of 33 = .ok (.iload_n 2, 1) := by decide +kernel
theorem dX8_of_34 : decode cX8_of 34 = .ok (.invokevirtual 61, 3) := by decide +kernel
theorem dX8_of_37 : decode cX8_of 37 = .ok (.goto 8, 3) := by decide +kernel
theorem dX8_of_40 : decode cX8_of 40 = .ok (.aload_n 0, 1) := by decide +kernel
theorem dX8_of_41 : decode cX8_of 41 = .ok (.iload_n 1, 1) := by decide +kernel
theorem dX8_of_42 : decode cX8_of 42 = .ok (.invokevirtual 72, 3) := by decide +kernel
theorem dX8_of_45 : decode cX8_of 45 = .ok (.ireturn, 1) := by decide +kernel
theorem dX8_says_0 : decode cX8_says 0 = .ok (.aload_n 0, 1) := by decide +kernel
theorem dX8_says_1 : decode cX8_says 1 = .ok (.iload_n 1, 1) := by decide +kernel
theorem dX8_says_2 : decode cX8_says 2 = .ok (.invokevirtual 91, 3) := by decide +kernel
theorem dX8_says_5 : decode cX8_says 5 = .ok (.ifCond .eq 20, 3) := by decide +kernel
theorem dX8_says_8 : decode cX8_says 8 = .ok (.bipush 100, 2) := by decide +kernel
theorem dX8_says_10 : decode cX8_says 10 = .ok (.aload_n 0, 1) := by decide +kernel
theorem dX8_says_11 : decode cX8_says 11 = .ok (.iload_n 1, 1) := by decide +kernel
theorem dX8_says_12 : decode cX8_says 12 = .ok (.aload_n 0, 1) := by decide +kernel
theorem dX8_says_13 : decode cX8_says 13 = .ok (.iload_n 1, 1) := by decide +kernel
theorem dX8_says_14 : decode cX8_says 14 = .ok (.iconst 5, 1) := by decide +kernel
theorem dX8_says_15 : decode cX8_says 15 = .ok (.invokevirtual 61, 3) := by decide +kernel
theorem dX8_says_18 : decode cX8_says 18 = .ok (.invokevirtual 94, 3) := by decide +kernel
theorem dX8_says_21 : decode cX8_says 21 = .ok (.iadd, 1) := by decide +kernel
theorem dX8_says_22 : decode cX8_says 22 = .ok (.goto 9, 3) := by decide +kernel
theorem dX8_says_25 : decode cX8_says 25 = .ok (.aload_n 0, 1) := by decide +kernel
theorem dX8_says_26 : decode cX8_says 26 = .ok (.ldc 56, 2) := by decide +kernel
theorem dX8_says_28 : decode cX8_says 28 = .ok (.invokevirtual 83, 3) := by decide +kernel
theorem dX8_says_31 : decode cX8_says 31 = .ok (.ireturn, 1) := by decide +kernel
theorem dX8_set_0 : decode cX8_set 0 = .ok (.iload_n 2, 1) := by decide +kernel
theorem dX8_set_1 : decode cX8_set 1 = .ok (.iconst 1, 1) := by decide +kernel
theorem dX8_set_2 : decode cX8_set 2 = .ok (.if_icmp .ne 13, 3) := by decide +kernel
theorem dX8_set_5 : decode cX8_set 5 = .ok (.iload_n 3, 1) := by decide +kernel
theorem dX8_set_6 : decode cX8_set 6 = .ok (.iconst 0, 1) := by decide +kernel
theorem dX8_set_7 : decode cX8_set 7 = .ok (.bipush 20, 2) := by decide +kernel
theorem dX8_set_9 : decode cX8_set 9 = .ok (.invokestatic 57, 3) := by decide +kernel
theorem dX8_set_12 : decode cX8_set 12 = .ok (.goto 43, 3) := by decide +kernel
theorem dX8_set_15 : decode cX8_set 15 = .ok (.iload_n 2, 1) := by decide +kernel
theorem dX8_set_16 : decode cX8_set 16 = .ok (.iconst 2, 1) := by decide +kernel
theorem dX8_set_17 : decode cX8_set 17 = .ok (.if_icmp .ne 13, 3) := by decide +kernel
theorem dX8_set_20 : decode cX8_set 20 = .ok (.iload_n 3, 1) := by decide +kernel
theorem dX8_set_21 : decode cX8_set 21 = .ok (.iconst 0, 1) := by decide +kernel
theorem dX8_set_22 : decode cX8_set 22 = .ok (.ldc 97, 2) := by decide +kernel
theorem dX8_set_24 : decode cX8_set 24 = .ok (.invokestatic 57, 3) := by decide +kernel
theorem dX8_set_27 : decode cX8_set 27 = .ok (.goto 28, 3) := by decide +kernel
theorem dX8_set_30 : decode cX8_set 30 = .ok (.iload_n 2, 1) := by decide +kernel
theorem dX8_set_31 : decode cX8_set 31 = .ok (.iconst 3, 1) := by decide +kernel
theorem dX8_set_32 : decode cX8_set 32 = .ok (.if_icmp .eq 8, 3) := by decide +kernel
theorem dX8_set_35 : decode cX8_set 35 = .ok (.iload_n 2, 1) := by decide +kernel
theorem dX8_set_36 : decode cX8_set 36 = .ok (.iconst 4, 1) := by decide +kernel
theorem dX8_set_37 : decode cX8_set 37 = .ok (.if_icmp .ne 17, 3) := by decide +kernel
theorem dX8_set_40 : decode cX8_set 40 = .ok (.iload_n 3, 1) := by decide +kernel
theorem dX8_set_41 : decode cX8_set 41 = .ok (.iconst 0, 1) := by decide +kernel
theorem dX8_set_42 : decode cX8_set 42 = .ok (.bipush 99, 2) := by decide +kernel
theorem dX8_set_44 : decode cX8_set 44 = .ok (.invokestatic 57, 3) := by decide +kernel
theorem dX8_set_47 : decode cX8_set 47 = .ok (.ifCond .eq 7, 3) := by decide +kernel
theorem dX8_set_50 : decode cX8_set 50 = .ok (.iconst 1, 1) := by decide +kernel
theorem dX8_set_51 : decode cX8_set 51 = .ok (.goto 4, 3) := by decide +kernel
theorem dX8_set_54 : decode cX8_set 54 = .ok (.iconst 0, 1) := by decide +kernel
theorem dX8_set_55 : decode cX8_set 55 = .ok (.istore 4, 2) := by decide +kernel
theorem dX8_set_57 : decode cX8_set 57 = .ok (.aload_n 0, 1) := by decide +kernel
theorem dX8_set_58 : decode cX8_set 58 = .ok (.iload_n 1, 1) := by decide +kernel
theorem dX8_set_59 : decode cX8_set 59 = .ok (.invokevirtual 91, 3) := by decide +kernel
theorem dX8_set_62 : decode cX8_set 62 = .ok (.ifCond .eq 24, 3) := by decide +kernel
theorem dX8_set_65 : decode cX8_set 65 = .ok (.iload 4, 2) := by decide +kernel
theorem dX8_set_67 : decode cX8_set 67 = .ok (.ifCond .eq 19, 3) := by decide +kernel
theorem dX8_set_70 : decode cX8_set 70 = .ok (.aload_n 0, 1) := by decide +kernel
theorem dX8_set_71 : decode cX8_set 71 = .ok (.iconst 3, 1) := by decide +kernel
theorem dX8_set_72 : decode cX8_set 72 = .ok (.bipush 6, 2) := by decide +kernel
theorem dX8_set_74 : decode cX8_set 74 = .ok (.iload_n 1, 1) := by decide +kernel
theorem dX8_set_75 : decode cX8_set 75 = .ok (.imul, 1) := by decide +kernel
theorem dX8_set_76 : decode cX8_set 76 = .ok (.iadd, 1) := by decide +kernel
theorem dX8_set_77 : decode cX8_set 77 = .ok (.iload_n 2, 1) := by decide +kernel
theorem dX8_set_78 : decode cX8_set 78 = .ok (.iadd, 1) := by decide +kernel
theorem dX8_set_79 : decode cX8_set 79 = .ok (.iload_n 3, 1) := by decide +kernel
theorem dX8_set_80 : decode cX8_set 80 = .ok (.invokevirtual 98, 3) := by decide +kernel
theorem dX8_set_83 : decode cX8_set 83 = .ok (.goto 9, 3) := by decide +kernel
theorem dX8_set_86 : decode cX8_set 86 = .ok (.aload_n 0, 1) := by decide +kernel
theorem dX8_set_87 : decode cX8_set 87 = .ok (.ldc 56, 2) := by decide +kernel
theorem dX8_set_89 : decode cX8_set 89 = .ok (.invokevirtual 83, 3) := by decide +kernel
theorem dX8_set_92 : decode cX8_set 92 = .ok (.ireturn, 1) := by decide +kernel
theorem dX8_turn_0 : decode cX8_turn 0 = .ok (.aload_n 0, 1) := by decide +kernel
theorem dX8_turn_1 : decode cX8_turn 1 = .ok (.iload_n 1, 1) := by decide +kernel
theorem dX8_turn_2 : decode cX8_turn 2 = .ok (.invokevirtual 91, 3) := by decide +kernel
theorem dX8_turn_5 : decode cX8_turn 5 = .ok (.ifCond .eq 24, 3) := by decide +kernel
theorem dX8_turn_8 : decode cX8_turn 8 = .ok (.iload_n 2, 1) := by decide +kernel
theorem dX8_turn_9 : decode cX8_turn 9 = .ok (.invokestatic 80, 3) := by decide +kernel
theorem dX8_turn_12 : decode cX8_turn 12 = .ok (.ifCond .eq 17, 3) := by decide +kernel
theorem dX8_turn_15 : decode cX8_turn 15 = .ok (.aload_n 0, 1) := by decide +kernel
theorem dX8_turn_16 : decode cX8_turn 16 = .ok (.iconst 3, 1) := by decide +kernel
theorem dX8_turn_17 : decode cX8_turn 17 = .ok (.bipush 6, 2) := by decide +kernel
theorem dX8_turn_19 : decode cX8_turn 19 = .ok (.iload_n 1, 1) := by decide +kernel
theorem dX8_turn_20 : decode cX8_turn 20 = .ok (.imul, 1) := by decide +kernel
theorem dX8_turn_21 : decode cX8_turn 21 = .ok (.iadd, 1) := by decide +kernel
theorem dX8_turn_22 : decode cX8_turn 22 = .ok (.iload_n 2, 1) := by decide +kernel
theorem dX8_turn_23 : decode cX8_turn 23 = .ok (.invokevirtual 98, 3) := by decide +kernel
theorem dX8_turn_26 : decode cX8_turn 26 = .ok (.goto 9, 3) := by decide +kernel
theorem dX8_turn_29 : decode cX8_turn 29 = .ok (.aload_n 0, 1) := by decide +kernel
theorem dX8_turn_30 : decode cX8_turn 30 = .ok (.ldc 56, 2) := by decide +kernel
theorem dX8_turn_32 : decode cX8_turn 32 = .ok (.invokevirtual 83, 3) := by decide +kernel
theorem dX8_turn_35 : decode cX8_turn 35 = .ok (.ireturn, 1) := by decide +kernel
theorem dX8_as_0 : decode cX8_as 0 = .ok (.aload_n 0, 1) := by decide +kernel
theorem dX8_as_1 : decode cX8_as 1 = .ok (.iload_n 1, 1) := by decide +kernel
theorem dX8_as_2 : decode cX8_as 2 = .ok (.invokevirtual 91, 3) := by decide +kernel
theorem dX8_as_5 : decode cX8_as 5 = .ok (.ifCond .eq 10, 3) := by decide +kernel
theorem dX8_as_8 : decode cX8_as 8 = .ok (.iload_n 2, 1) := by decide +kernel
theorem dX8_as_9 : decode cX8_as 9 = .ok (.invokestatic 80, 3) := by decide +kernel
theorem dX8_as_12 : decode cX8_as 12 = .ok (.ifCond .ne 10, 3) := by decide +kernel
theorem dX8_as_15 : decode cX8_as 15 = .ok (.aload_n 0, 1) := by decide +kernel
theorem dX8_as_16 : decode cX8_as 16 = .ok (.ldc 56, 2) := by decide +kernel
theorem dX8_as_18 : decode cX8_as 18 = .ok (.invokevirtual 83, 3) := by decide +kernel
theorem dX8_as_21 : decode cX8_as 21 = .ok (.ireturn, 1) := by decide +kernel
theorem dX8_as_22 : decode cX8_as 22 = .ok (.aload_n 0, 1) := by decide +kernel
theorem dX8_as_23 : decode cX8_as 23 = .ok (.iload_n 1, 1) := by decide +kernel
theorem dX8_as_24 : decode cX8_as 24 = .ok (.iconst 0, 1) := by decide +kernel
theorem dX8_as_25 : decode cX8_as 25 = .ok (.invokevirtual 61, 3) := by decide +kernel
theorem dX8_as_28 : decode cX8_as 28 = .ok (.istore_n 3, 1) := by decide +kernel
theorem dX8_as_29 : decode cX8_as 29 = .ok (.iload_n 2, 1) := by decide +kernel
theorem dX8_as_30 : decode cX8_as 30 = .ok (.ifCond .eq 28, 3) := by decide +kernel
theorem dX8_as_33 : decode cX8_as 33 = .ok (.iload_n 2, 1) := by decide +kernel
theorem dX8_as_34 : decode cX8_as 34 = .ok (.iload_n 3, 1) := by decide +kernel
theorem dX8_as_35 : decode cX8_as 35 = .ok (.if_icmp .eq 23, 3) := by decide +kernel
theorem dX8_as_38 : decode cX8_as 38 = .ok (.iload_n 2, 1) := by decide +kernel
theorem dX8_as_39 : decode cX8_as 39 = .ok (.iconst 1, 1) := by decide +kernel
theorem dX8_as_40 : decode cX8_as 40 = .ok (.if_icmp .ne 8, 3) := by decide +kernel
theorem dX8_as_43 : decode cX8_as 43 = .ok (.iload_n 3, 1) := by decide +kernel
theorem dX8_as_44 : decode cX8_as 44 = .ok (.iconst 4, 1) := by decide +kernel
theorem dX8_as_45 : decode cX8_as 45 = .ok (.if_icmp .eq 13, 3) := by decide +kernel
theorem dX8_as_48 : decode cX8_as 48 = .ok (.iload_n 2, 1) := by decide +kernel
theorem dX8_as_49 : decode cX8_as 49 = .ok (.iconst 2, 1) := by decide +kernel
theorem dX8_as_50 : decode cX8_as 50 = .ok (.if_icmp .ne 12, 3) := by decide +kernel
theorem dX8_as_53 : decode cX8_as 53 = .ok (.iload_n 3, 1) := by decide +kernel
theorem dX8_as_54 : decode cX8_as 54 = .ok (.iconst 5, 1) := by decide +kernel
theorem dX8_as_55 : decode cX8_as 55 = .ok (.if_icmp .ne 7, 3) := by decide +kernel
theorem dX8_as_58 : decode cX8_as 58 = .ok (.iconst 1, 1) := by decide +kernel
theorem dX8_as_59 : decode cX8_as 59 = .ok (.goto 4, 3) := by decide +kernel
theorem dX8_as_62 : decode cX8_as 62 = .ok (.iconst 0, 1) := by decide +kernel
theorem dX8_as_63 : decode cX8_as 63 = .ok (.istore 4, 2) := by decide +kernel
theorem dX8_as_65 : decode cX8_as 65 = .ok (.iload 4, 2) := by decide +kernel
theorem dX8_as_67 : decode cX8_as 67 = .ok (.ifCond .eq 12, 3) := by decide +kernel
theorem dX8_as_70 : decode cX8_as 70 = .ok (.aload_n 0, 1) := by decide +kernel
theorem dX8_as_71 : decode cX8_as 71 = .ok (.iload_n 1, 1) := by decide +kernel
theorem dX8_as_72 : decode cX8_as 72 = .ok (.iconst 3, 1) := by decide +kernel
theorem dX8_as_73 : decode cX8_as 73 = .ok (.invokevirtual 61, 3) := by decide +kernel
theorem dX8_as_76 : decode cX8_as 76 = .ok (.goto 9, 3) := by decide +kernel
theorem dX8_as_79 : decode cX8_as 79 = .ok (.aload_n 0, 1) := by decide +kernel
theorem dX8_as_80 : decode cX8_as 80 = .ok (.ldc 101, 2) := by decide +kernel
theorem dX8_as_82 : decode cX8_as 82 = .ok (.invokevirtual 83, 3) := by decide +kernel
theorem dX8_as_85 : decode cX8_as 85 = .ok (.ireturn, 1) := by decide +kernel
theorem dX8_swaps_0 : decode cX8_swaps 0 = .ok (.aload_n 0, 1) := by decide +kernel
theorem dX8_swaps_1 : decode cX8_swaps 1 = .ok (.iload_n 1, 1) := by decide +kernel
theorem dX8_swaps_2 : decode cX8_swaps 2 = .ok (.iconst 5, 1) := by decide +kernel
theorem dX8_swaps_3 : decode cX8_swaps 3 = .ok (.invokevirtual 61, 3) := by decide +kernel
theorem dX8_swaps_6 : decode cX8_swaps 6 = .ok (.istore_n 3, 1) := by decide +kernel
theorem dX8_swaps_7 : decode cX8_swaps 7 = .ok (.aload_n 0, 1) := by decide +kernel
theorem dX8_swaps_8 : decode cX8_swaps 8 = .ok (.iload_n 1, 1) := by decide +kernel
theorem dX8_swaps_9 : decode cX8_swaps 9 = .ok (.iconst 5, 1) := by decide +kernel
theorem dX8_swaps_10 : decode cX8_swaps 10 = .ok (.aload_n 0, 1) := by decide +kernel
theorem dX8_swaps_11 : decode cX8_swaps 11 = .ok (.iload_n 2, 1) := by decide +kernel
theorem dX8_swaps_12 : decode cX8_swaps 12 = .ok (.iconst 5, 1) := by decide +kernel
theorem dX8_swaps_13 : decode cX8_swaps 13 = .ok (.invokevirtual 61, 3) := by decide +kernel
theorem dX8_swaps_16 : decode cX8_swaps 16 = .ok (.invokevirtual 76, 3) := by decide +kernel
theorem dX8_swaps_19 : decode cX8_swaps 19 = .ok (.aload_n 0, 1) := by decide +kernel
theorem dX8_swaps_20 : decode cX8_swaps 20 = .ok (.iload_n 2, 1) := by decide +kernel
theorem dX8_swaps_21 : decode cX8_swaps 21 = .ok (.iconst 5, 1) := by decide +kernel
theorem dX8_swaps_22 : decode cX8_swaps 22 = .ok (.iload_n 3, 1) := by decide +kernel
theorem dX8_swaps_23 : decode cX8_swaps 23 = .ok (.invokevirtual 76, 3) := by decide +kernel
theorem dX8_swaps_26 : decode cX8_swaps 26 = .ok (.return_, 1) := by decide +kernel
theorem dX8_ownSet_0 : decode cX8_ownSet 0 = .ok (.iconst 0, 1) := by decide +kernel
theorem dX8_ownSet_1 : decode cX8_ownSet 1 = .ok (.istore_n 1, 1) := by decide +kernel
theorem dX8_ownSet_2 : decode cX8_ownSet 2 = .ok (.iconst 0, 1) := by decide +kernel
theorem dX8_ownSet_3 : decode cX8_ownSet 3 = .ok (.istore_n 2, 1) := by decide +kernel
theorem dX8_ownSet_4 : decode cX8_ownSet 4 = .ok (.iload_n 2, 1) := by decide +kernel
theorem dX8_ownSet_5 : decode cX8_ownSet 5 = .ok (.aload_n 0, 1) := by decide +kernel
theorem dX8_ownSet_6 : decode cX8_ownSet 6 = .ok (.getfield 7, 3) := by decide +kernel
theorem dX8_ownSet_9 : decode cX8_ownSet 9 = .ok (.iconst 2, 1) := by decide +kernel
theorem dX8_ownSet_10 : decode cX8_ownSet 10 = .ok (.iaload, 1) := by decide +kernel
theorem dX8_ownSet_11 : decode cX8_ownSet 11 = .ok (.if_icmp .ge 29, 3) := by decide +kernel
theorem dX8_ownSet_14 : decode cX8_ownSet 14 = .ok (.iload_n 1, 1) := by decide +kernel
theorem dX8_ownSet_15 : decode cX8_ownSet 15 = .ok (.aload_n 0, 1) := by decide +kernel
theorem dX8_ownSet_16 : decode cX8_ownSet 16 = .ok (.iload_n 2, 1) := by decide +kernel
theorem dX8_ownSet_17 : decode cX8_ownSet 17 = .ok (.iconst 5, 1) := by decide +kernel
theorem dX8_ownSet_18 : decode cX8_ownSet 18 = .ok (.invokevirtual 61, 3) := by decide +kernel
theorem dX8_ownSet_21 : decode cX8_ownSet 21 = .ok (.iload_n 2, 1) := by decide +kernel
theorem dX8_ownSet_22 : decode cX8_ownSet 22 = .ok (.if_icmp .ne 9, 3) := by decide +kernel
theorem dX8_ownSet_25 : decode cX8_ownSet 25 = .ok (.iconst 1, 1) := by decide +kernel
theorem dX8_ownSet_26 : decode cX8_ownSet 26 = .ok (.iload_n 2, 1) := by decide +kernel
theorem dX8_ownSet_27 : decode cX8_ownSet 27 = .ok (.ishl, 1) := by decide +kernel
theorem dX8_ownSet_28 : decode cX8_ownSet 28 = .ok (.goto 4, 3) := by decide +kernel
theorem dX8_ownSet_31 : decode cX8_ownSet 31 = .ok (.iconst 0, 1) := by decide +kernel
theorem dX8_ownSet_32 : decode cX8_ownSet 32 = .ok (.ior, 1) := by decide +kernel
theorem dX8_ownSet_33 : decode cX8_ownSet 33 = .ok (.istore_n 1, 1) := by decide +kernel
theorem dX8_ownSet_34 : decode cX8_ownSet 34 = .ok (.iinc 2 1, 3) := by decide +kernel
theorem dX8_ownSet_37 : decode cX8_ownSet 37 = .ok (.goto (-33), 3) := by decide +kernel
theorem dX8_ownSet_40 : decode cX8_ownSet 40 = .ok (.iload_n 1, 1) := by decide +kernel
theorem dX8_ownSet_41 : decode cX8_ownSet 41 = .ok (.ireturn, 1) := by decide +kernel
theorem dX8_bits_0 : decode cX8_bits 0 = .ok (.iconst 0, 1) := by decide +kernel
theorem dX8_bits_1 : decode cX8_bits 1 = .ok (.istore_n 1, 1) := by decide +kernel
theorem dX8_bits_2 : decode cX8_bits 2 = .ok (.iload_n 0, 1) := by decide +kernel
theorem dX8_bits_3 : decode cX8_bits 3 = .ok (.istore_n 2, 1) := by decide +kernel
theorem dX8_bits_4 : decode cX8_bits 4 = .ok (.iload_n 2, 1) := by decide +kernel
theorem dX8_bits_5 : decode cX8_bits 5 = .ok (.ifCond .eq 15, 3) := by decide +kernel
theorem dX8_bits_8 : decode cX8_bits 8 = .ok (.iinc 1 1, 3) := by decide +kernel
theorem dX8_bits_11 : decode cX8_bits 11 = .ok (.iload_n 2, 1) := by decide +kernel
theorem dX8_bits_12 : decode cX8_bits 12 = .ok (.iload_n 2, 1) := by decide +kernel
theorem dX8_bits_13 : decode cX8_bits 13 = .ok (.iconst 1, 1) := by decide +kernel
theorem dX8_bits_14 : decode cX8_bits 14 = .ok (.isub, 1) := by decide +kernel
theorem dX8_bits_15 : decode cX8_bits 15 = .ok (.iand, 1) := by decide +kernel
theorem dX8_bits_16 : decode cX8_bits 16 = .ok (.istore_n 2, 1) := by decide +kernel
theorem dX8_bits_17 : decode cX8_bits 17 = .ok (.goto (-13), 3) := by decide +kernel
theorem dX8_bits_20 : decode cX8_bits 20 = .ok (.iload_n 1, 1) := by decide +kernel
theorem dX8_bits_21 : decode cX8_bits 21 = .ok (.ireturn, 1) := by decide +kernel
theorem dX8_swap_0 : decode cX8_swap 0 = .ok (.aload_n 0, 1) := by decide +kernel
theorem dX8_swap_1 : decode cX8_swap 1 = .ok (.iload_n 1, 1) := by decide +kernel
theorem dX8_swap_2 : decode cX8_swap 2 = .ok (.invokevirtual 91, 3) := by decide +kernel
theorem dX8_swap_5 : decode cX8_swap 5 = .ok (.ifCond .eq 16, 3) := by decide +kernel
theorem dX8_swap_8 : decode cX8_swap 8 = .ok (.aload_n 0, 1) := by decide +kernel
theorem dX8_swap_9 : decode cX8_swap 9 = .ok (.iload_n 2, 1) := by decide +kernel
theorem dX8_swap_10 : decode cX8_swap 10 = .ok (.invokevirtual 91, 3) := by decide +kernel
theorem dX8_swap_13 : decode cX8_swap 13 = .ok (.ifCond .eq 8, 3) := by decide +kernel
theorem dX8_swap_16 : decode cX8_swap 16 = .ok (.iload_n 1, 1) := by decide +kernel
theorem dX8_swap_17 : decode cX8_swap 17 = .ok (.iload_n 2, 1) := by decide +kernel
theorem dX8_swap_18 : decode cX8_swap 18 = .ok (.if_icmp .ne 10, 3) := by decide +kernel
theorem dX8_swap_21 : decode cX8_swap 21 = .ok (.aload_n 0, 1) := by decide +kernel
theorem dX8_swap_22 : decode cX8_swap 22 = .ok (.ldc 56, 2) := by decide +kernel
theorem dX8_swap_24 : decode cX8_swap 24 = .ok (.invokevirtual 83, 3) := by decide +kernel
theorem dX8_swap_27 : decode cX8_swap 27 = .ok (.ireturn, 1) := by decide +kernel
theorem dX8_swap_28 : decode cX8_swap 28 = .ok (.aload_n 0, 1) := by decide +kernel
theorem dX8_swap_29 : decode cX8_swap 29 = .ok (.iload_n 1, 1) := by decide +kernel
theorem dX8_swap_30 : decode cX8_swap 30 = .ok (.iload_n 2, 1) := by decide +kernel
theorem dX8_swap_31 : decode cX8_swap 31 = .ok (.invokevirtual 102, 3) := by decide +kernel
theorem dX8_swap_34 : decode cX8_swap 34 = .ok (.ifCond .ne 10, 3) := by decide +kernel
theorem dX8_swap_37 : decode cX8_swap 37 = .ok (.aload_n 0, 1) := by decide +kernel
theorem dX8_swap_38 : decode cX8_swap 38 = .ok (.ldc 106, 2) := by decide +kernel
theorem dX8_swap_40 : decode cX8_swap 40 = .ok (.invokevirtual 83, 3) := by decide +kernel
theorem dX8_swap_43 : decode cX8_swap 43 = .ok (.ireturn, 1) := by decide +kernel
theorem dX8_swap_44 : decode cX8_swap 44 = .ok (.aload_n 0, 1) := by decide +kernel
theorem dX8_swap_45 : decode cX8_swap 45 = .ok (.iload_n 1, 1) := by decide +kernel
theorem dX8_swap_46 : decode cX8_swap 46 = .ok (.iload_n 2, 1) := by decide +kernel
theorem dX8_swap_47 : decode cX8_swap 47 = .ok (.invokevirtual 107, 3) := by decide +kernel
theorem dX8_swap_50 : decode cX8_swap 50 = .ok (.aload_n 0, 1) := by decide +kernel
theorem dX8_swap_51 : decode cX8_swap 51 = .ok (.invokevirtual 111, 3) := by decide +kernel
theorem dX8_swap_54 : decode cX8_swap 54 = .ok (.invokestatic 115, 3) := by decide +kernel
theorem dX8_swap_57 : decode cX8_swap 57 = .ok (.ireturn, 1) := by decide +kernel
theorem dX8_allOwn_0 : decode cX8_allOwn 0 = .ok (.iconst 0, 1) := by decide +kernel
theorem dX8_allOwn_1 : decode cX8_allOwn 1 = .ok (.istore_n 1, 1) := by decide +kernel
theorem dX8_allOwn_2 : decode cX8_allOwn 2 = .ok (.iload_n 1, 1) := by decide +kernel
theorem dX8_allOwn_3 : decode cX8_allOwn 3 = .ok (.aload_n 0, 1) := by decide +kernel
theorem dX8_allOwn_4 : decode cX8_allOwn 4 = .ok (.getfield 7, 3) := by decide +kernel
theorem dX8_allOwn_7 : decode cX8_allOwn 7 = .ok (.iconst 2, 1) := by decide +kernel
theorem dX8_allOwn_8 : decode cX8_allOwn 8 = .ok (.iaload, 1) := by decide +kernel
theorem dX8_allOwn_9 : decode cX8_allOwn 9 = .ok (.if_icmp .ge 16, 3) := by decide +kernel
theorem dX8_allOwn_12 : decode cX8_allOwn 12 = .ok (.aload_n 0, 1) := by decide +kernel
theorem dX8_allOwn_13 : decode cX8_allOwn 13 = .ok (.iload_n 1, 1) := by decide +kernel
theorem dX8_allOwn_14 : decode cX8_allOwn 14 = .ok (.iconst 5, 1) := by decide +kernel
theorem dX8_allOwn_15 : decode cX8_allOwn 15 = .ok (.iload_n 1, 1) := by decide +kernel
theorem dX8_allOwn_16 : decode cX8_allOwn 16 = .ok (.invokevirtual 76, 3) := by decide +kernel
theorem dX8_allOwn_19 : decode cX8_allOwn 19 = .ok (.iinc 1 1, 3) := by decide +kernel
theorem dX8_allOwn_22 : decode cX8_allOwn 22 = .ok (.goto (-20), 3) := by decide +kernel
theorem dX8_allOwn_25 : decode cX8_allOwn 25 = .ok (.return_, 1) := by decide +kernel
theorem dX8_home_0 : decode cX8_home 0 = .ok (.aload_n 0, 1) := by decide +kernel
theorem dX8_home_1 : decode cX8_home 1 = .ok (.getfield 7, 3) := by decide +kernel
theorem dX8_home_4 : decode cX8_home 4 = .ok (.iconst 2, 1) := by decide +kernel
theorem dX8_home_5 : decode cX8_home 5 = .ok (.iaload, 1) := by decide +kernel
theorem dX8_home_6 : decode cX8_home 6 = .ok (.aload_n 0, 1) := by decide +kernel
theorem dX8_home_7 : decode cX8_home 7 = .ok (.invokevirtual 111, 3) := by decide +kernel
theorem dX8_home_10 : decode cX8_home 10 = .ok (.invokestatic 115, 3) := by decide +kernel
theorem dX8_home_13 : decode cX8_home 13 = .ok (.isub, 1) := by decide +kernel
theorem dX8_home_14 : decode cX8_home 14 = .ok (.istore_n 1, 1) := by decide +kernel
theorem dX8_home_15 : decode cX8_home 15 = .ok (.aload_n 0, 1) := by decide +kernel
theorem dX8_home_16 : decode cX8_home 16 = .ok (.invokevirtual 118, 3) := by decide +kernel
theorem dX8_home_19 : decode cX8_home 19 = .ok (.iload_n 1, 1) := by decide +kernel
theorem dX8_home_20 : decode cX8_home 20 = .ok (.ireturn, 1) := by decide +kernel
theorem dX8_drawn_0 : decode cX8_drawn 0 = .ok (.aload_n 0, 1) := by decide +kernel
theorem dX8_drawn_1 : decode cX8_drawn 1 = .ok (.getfield 7, 3) := by decide +kernel
theorem dX8_drawn_4 : decode cX8_drawn 4 = .ok (.iconst 1, 1) := by decide +kernel
theorem dX8_drawn_5 : decode cX8_drawn 5 = .ok (.aload_n 0, 1) := by decide +kernel
theorem dX8_drawn_6 : decode cX8_drawn 6 = .ok (.getfield 7, 3) := by decide +kernel
theorem dX8_drawn_9 : decode cX8_drawn 9 = .ok (.iconst 1, 1) := by decide +kernel
theorem dX8_drawn_10 : decode cX8_drawn 10 = .ok (.iaload, 1) := by decide +kernel
theorem dX8_drawn_11 : decode cX8_drawn 11 = .ok (.ldc 121, 2) := by decide +kernel
theorem dX8_drawn_13 : decode cX8_drawn 13 = .ok (.imul, 1) := by decide +kernel
theorem dX8_drawn_14 : decode cX8_drawn 14 = .ok (.sipush 12345, 3) := by decide +kernel
theorem dX8_drawn_17 : decode cX8_drawn 17 = .ok (.iadd, 1) := by decide +kernel
theorem dX8_drawn_18 : decode cX8_drawn 18 = .ok (.iastore, 1) := by decide +kernel
theorem dX8_drawn_19 : decode cX8_drawn 19 = .ok (.aload_n 0, 1) := by decide +kernel
theorem dX8_drawn_20 : decode cX8_drawn 20 = .ok (.getfield 7, 3) := by decide +kernel
theorem dX8_drawn_23 : decode cX8_drawn 23 = .ok (.iconst 1, 1) := by decide +kernel
theorem dX8_drawn_24 : decode cX8_drawn 24 = .ok (.iaload, 1) := by decide +kernel
theorem dX8_drawn_25 : decode cX8_drawn 25 = .ok (.bipush 16, 2) := by decide +kernel
theorem dX8_drawn_27 : decode cX8_drawn 27 = .ok (.iushr, 1) := by decide +kernel
theorem dX8_drawn_28 : decode cX8_drawn 28 = .ok (.iload_n 1, 1) := by decide +kernel
theorem dX8_drawn_29 : decode cX8_drawn 29 = .ok (.irem, 1) := by decide +kernel
theorem dX8_drawn_30 : decode cX8_drawn 30 = .ok (.ireturn, 1) := by decide +kernel
theorem dX8_drawsOf_0 : decode cX8_drawsOf 0 = .ok (.iconst 0, 1) := by decide +kernel
theorem dX8_drawsOf_1 : decode cX8_drawsOf 1 = .ok (.istore_n 2, 1) := by decide +kernel
theorem dX8_drawsOf_2 : decode cX8_drawsOf 2 = .ok (.iconst 0, 1) := by decide +kernel
theorem dX8_drawsOf_3 : decode cX8_drawsOf 3 = .ok (.istore_n 3, 1) := by decide +kernel
theorem dX8_drawsOf_4 : decode cX8_drawsOf 4 = .ok (.iload_n 3, 1) := by decide +kernel
theorem dX8_drawsOf_5 : decode cX8_drawsOf 5 = .ok (.aload_n 0, 1) := by decide +kernel
theorem dX8_drawsOf_6 : decode cX8_drawsOf 6 = .ok (.getfield 7, 3) := by decide +kernel
theorem dX8_drawsOf_9 : decode cX8_drawsOf 9 = .ok (.iconst 2, 1) := by decide +kernel
theorem dX8_drawsOf_10 : decode cX8_drawsOf 10 = .ok (.iaload, 1) := by decide +kernel
theorem dX8_drawsOf_11 : decode cX8_drawsOf 11 = .ok (.if_icmp .ge 28, 3) := by decide +kernel
theorem dX8_drawsOf_14 : decode cX8_drawsOf 14 = .ok (.aload_n 0, 1) := by decide +kernel
theorem dX8_drawsOf_15 : decode cX8_drawsOf 15 = .ok (.iload_n 3, 1) := by decide +kernel
theorem dX8_drawsOf_16 : decode cX8_drawsOf 16 = .ok (.invokevirtual 65, 3) := by decide +kernel
theorem dX8_drawsOf_19 : decode cX8_drawsOf 19 = .ok (.iload_n 1, 1) := by decide +kernel
theorem dX8_drawsOf_20 : decode cX8_drawsOf 20 = .ok (.if_icmp .ne 13, 3) := by decide +kernel
theorem dX8_drawsOf_23 : decode cX8_drawsOf 23 = .ok (.aload_n 0, 1) := by decide +kernel
theorem dX8_drawsOf_24 : decode cX8_drawsOf 24 = .ok (.getfield 16, 3) := by decide +kernel
theorem dX8_drawsOf_27 : decode cX8_drawsOf 27 = .ok (.iload_n 2, 1) := by decide +kernel
theorem dX8_drawsOf_28 : decode cX8_drawsOf 28 = .ok (.iload_n 3, 1) := by decide +kernel
theorem dX8_drawsOf_29 : decode cX8_drawsOf 29 = .ok (.iastore, 1) := by decide +kernel
theorem dX8_drawsOf_30 : decode cX8_drawsOf 30 = .ok (.iinc 2 1, 3) := by decide +kernel
theorem dX8_drawsOf_33 : decode cX8_drawsOf 33 = .ok (.iinc 3 1, 3) := by decide +kernel
theorem dX8_drawsOf_36 : decode cX8_drawsOf 36 = .ok (.goto (-32), 3) := by decide +kernel
theorem dX8_drawsOf_39 : decode cX8_drawsOf 39 = .ok (.iload_n 2, 1) := by decide +kernel
theorem dX8_drawsOf_40 : decode cX8_drawsOf 40 = .ok (.iconst 1, 1) := by decide +kernel
theorem dX8_drawsOf_41 : decode cX8_drawsOf 41 = .ok (.isub, 1) := by decide +kernel
theorem dX8_drawsOf_42 : decode cX8_drawsOf 42 = .ok (.istore_n 3, 1) := by decide +kernel
theorem dX8_drawsOf_43 : decode cX8_drawsOf 43 = .ok (.iload_n 3, 1) := by decide +kernel
theorem dX8_drawsOf_44 : decode cX8_drawsOf 44 = .ok (.ifCond .le 31, 3) := by decide +kernel
theorem dX8_drawsOf_47 : decode cX8_drawsOf 47 = .ok (.aload_n 0, 1) := by decide +kernel
theorem dX8_drawsOf_48 : decode cX8_drawsOf 48 = .ok (.aload_n 0, 1) := by decide +kernel
theorem dX8_drawsOf_49 : decode cX8_drawsOf 49 = .ok (.getfield 16, 3) := by decide +kernel
theorem dX8_drawsOf_52 : decode cX8_drawsOf 52 = .ok (.iload_n 3, 1) := by decide +kernel
theorem dX8_drawsOf_53 : decode cX8_drawsOf 53 = .ok (.iaload, 1) := by decide +kernel
theorem dX8_drawsOf_54 : decode cX8_drawsOf 54 = .ok (.aload_n 0, 1) := by decide +kernel
theorem dX8_drawsOf_55 : decode cX8_drawsOf 55 = .ok (.getfield 16, 3) := by decide +kernel
theorem dX8_drawsOf_58 : decode cX8_drawsOf 58 = .ok (.aload_n 0, 1) := by decide +kernel
theorem dX8_drawsOf_59 : decode cX8_drawsOf 59 = .ok (.iload_n 3, 1) := by decide +kernel
theorem dX8_drawsOf_60 : decode cX8_drawsOf 60 = .ok (.iconst 1, 1) := by decide +kernel
theorem dX8_drawsOf_61 : decode cX8_drawsOf 61 = .ok (.iadd, 1) := by decide +kernel
theorem dX8_drawsOf_62 : decode cX8_drawsOf 62 = .ok (.invokevirtual 122, 3) := by decide +kernel
theorem dX8_drawsOf_65 : decode cX8_drawsOf 65 = .ok (.iaload, 1) := by decide +kernel
theorem dX8_drawsOf_66 : decode cX8_drawsOf 66 = .ok (.invokevirtual 107, 3) := by decide +kernel
theorem dX8_drawsOf_69 : decode cX8_drawsOf 69 = .ok (.iinc 3 (-1), 3) := by decide +kernel
theorem dX8_drawsOf_72 : decode cX8_drawsOf 72 = .ok (.goto (-29), 3) := by decide +kernel
theorem dX8_drawsOf_75 : decode cX8_drawsOf 75 = .ok (.return_, 1) := by decide +kernel
theorem dX8_draws_0 : decode cX8_draws 0 = .ok (.aload_n 0, 1) := by decide +kernel
theorem dX8_draws_1 : decode cX8_draws 1 = .ok (.invokevirtual 118, 3) := by decide +kernel
theorem dX8_draws_4 : decode cX8_draws 4 = .ok (.aload_n 0, 1) := by decide +kernel
theorem dX8_draws_5 : decode cX8_draws 5 = .ok (.iconst 0, 1) := by decide +kernel
theorem dX8_draws_6 : decode cX8_draws 6 = .ok (.invokevirtual 125, 3) := by decide +kernel
theorem dX8_draws_9 : decode cX8_draws 9 = .ok (.aload_n 0, 1) := by decide +kernel
theorem dX8_draws_10 : decode cX8_draws 10 = .ok (.iconst 1, 1) := by decide +kernel
theorem dX8_draws_11 : decode cX8_draws 11 = .ok (.invokevirtual 125, 3) := by decide +kernel
theorem dX8_draws_14 : decode cX8_draws 14 = .ok (.return_, 1) := by decide +kernel
theorem dX8_draw_0 : decode cX8_draw 0 = .ok (.aload_n 0, 1) := by decide +kernel
theorem dX8_draw_1 : decode cX8_draw 1 = .ok (.invokevirtual 129, 3) := by decide +kernel
theorem dX8_draw_4 : decode cX8_draw 4 = .ok (.aload_n 0, 1) := by decide +kernel
theorem dX8_draw_5 : decode cX8_draw 5 = .ok (.invokevirtual 111, 3) := by decide +kernel
theorem dX8_draw_8 : decode cX8_draw 8 = .ok (.invokestatic 115, 3) := by decide +kernel
theorem dX8_draw_11 : decode cX8_draw 11 = .ok (.ireturn, 1) := by decide +kernel
theorem dX8_seed_0 : decode cX8_seed 0 = .ok (.aload_n 0, 1) := by decide +kernel
theorem dX8_seed_1 : decode cX8_seed 1 = .ok (.iconst 1, 1) := by decide +kernel
theorem dX8_seed_2 : decode cX8_seed 2 = .ok (.iload_n 1, 1) := by decide +kernel
theorem dX8_seed_3 : decode cX8_seed 3 = .ok (.invokevirtual 98, 3) := by decide +kernel
theorem dX8_seed_6 : decode cX8_seed 6 = .ok (.ireturn, 1) := by decide +kernel
theorem dX8_oneFriday_0 : decode cX8_oneFriday 0 = .ok (.iconst 0, 1) := by decide +kernel
theorem dX8_oneFriday_1 : decode cX8_oneFriday 1 = .ok (.istore_n 1, 1) := by decide +kernel
theorem dX8_oneFriday_2 : decode cX8_oneFriday 2 = .ok (.iload_n 1, 1) := by decide +kernel
theorem dX8_oneFriday_3 : decode cX8_oneFriday 3 = .ok (.aload_n 0, 1) := by decide +kernel
theorem dX8_oneFriday_4 : decode cX8_oneFriday 4 = .ok (.getfield 7, 3) := by decide +kernel
theorem dX8_oneFriday_7 : decode cX8_oneFriday 7 = .ok (.iconst 2, 1) := by decide +kernel
theorem dX8_oneFriday_8 : decode cX8_oneFriday 8 = .ok (.iaload, 1) := by decide +kernel
theorem dX8_oneFriday_9 : decode cX8_oneFriday 9 = .ok (.if_icmp .ge 52, 3) := by decide +kernel
theorem dX8_oneFriday_12 : decode cX8_oneFriday 12 = .ok (.aload_n 0, 1) := by decide +kernel
theorem dX8_oneFriday_13 : decode cX8_oneFriday 13 = .ok (.iload_n 1, 1) := by decide +kernel
theorem dX8_oneFriday_14 : decode cX8_oneFriday 14 = .ok (.iconst 5, 1) := by decide +kernel
theorem dX8_oneFriday_15 : decode cX8_oneFriday 15 = .ok (.invokevirtual 61, 3) := by decide +kernel
theorem dX8_oneFriday_18 : decode cX8_oneFriday 18 = .ok (.istore_n 2, 1) := by decide +kernel
theorem dX8_oneFriday_19 : decode cX8_oneFriday 19 = .ok (.aload_n 0, 1) := by decide +kernel
theorem dX8_oneFriday_20 : decode cX8_oneFriday 20 = .ok (.getfield 19, 3) := by decide +kernel
theorem dX8_oneFriday_23 : decode cX8_oneFriday 23 = .ok (.iload_n 2, 1) := by decide +kernel
theorem dX8_oneFriday_24 : decode cX8_oneFriday 24 = .ok (.aload_n 0, 1) := by decide +kernel
theorem dX8_oneFriday_25 : decode cX8_oneFriday 25 = .ok (.iload_n 1, 1) := by decide +kernel
theorem dX8_oneFriday_26 : decode cX8_oneFriday 26 = .ok (.iload_n 2, 1) := by decide +kernel
theorem dX8_oneFriday_27 : decode cX8_oneFriday 27 = .ok (.invokevirtual 69, 3) := by decide +kernel
theorem dX8_oneFriday_30 : decode cX8_oneFriday 30 = .ok (.iastore, 1) := by decide +kernel
theorem dX8_oneFriday_31 : decode cX8_oneFriday 31 = .ok (.aload_n 0, 1) := by decide +kernel
theorem dX8_oneFriday_32 : decode cX8_oneFriday 32 = .ok (.getfield 22, 3) := by decide +kernel
theorem dX8_oneFriday_35 : decode cX8_oneFriday 35 = .ok (.iload_n 2, 1) := by decide +kernel
theorem dX8_oneFriday_36 : decode cX8_oneFriday 36 = .ok (.aload_n 0, 1) := by decide +kernel
theorem dX8_oneFriday_37 : decode cX8_oneFriday 37 = .ok (.iload_n 1, 1) := by decide +kernel
theorem dX8_oneFriday_38 : decode cX8_oneFriday 38 = .ok (.iload_n 2, 1) := by decide +kernel
theorem dX8_oneFriday_39 : decode cX8_oneFriday 39 = .ok (.invokevirtual 94, 3) := by decide +kernel
theorem dX8_oneFriday_42 : decode cX8_oneFriday 42 = .ok (.iastore, 1) := by decide +kernel
theorem dX8_oneFriday_43 : decode cX8_oneFriday 43 = .ok (.aload_n 0, 1) := by decide +kernel
theorem dX8_oneFriday_44 : decode cX8_oneFriday 44 = .ok (.getfield 25, 3) := by decide +kernel
theorem dX8_oneFriday_47 : decode cX8_oneFriday 47 = .ok (.iload_n 1, 1) := by decide +kernel
theorem dX8_oneFriday_48 : decode cX8_oneFriday 48 = .ok (.aload_n 0, 1) := by decide +kernel
theorem dX8_oneFriday_49 : decode cX8_oneFriday 49 = .ok (.iload_n 1, 1) := by decide +kernel
theorem dX8_oneFriday_50 : decode cX8_oneFriday 50 = .ok (.iload_n 2, 1) := by decide +kernel
theorem dX8_oneFriday_51 : decode cX8_oneFriday 51 = .ok (.invokevirtual 132, 3) := by decide +kernel
theorem dX8_oneFriday_54 : decode cX8_oneFriday 54 = .ok (.iastore, 1) := by decide +kernel
theorem dX8_oneFriday_55 : decode cX8_oneFriday 55 = .ok (.iinc 1 1, 3) := by decide +kernel
theorem dX8_oneFriday_58 : decode cX8_oneFriday 58 = .ok (.goto (-56), 3) := by decide +kernel
theorem dX8_oneFriday_61 : decode cX8_oneFriday 61 = .ok (.iconst 0, 1) := by decide +kernel
theorem dX8_oneFriday_62 : decode cX8_oneFriday 62 = .ok (.istore_n 1, 1) := by decide +kernel
theorem dX8_oneFriday_63 : decode cX8_oneFriday 63 = .ok (.iload_n 1, 1) := by decide +kernel
theorem dX8_oneFriday_64 : decode cX8_oneFriday 64 = .ok (.aload_n 0, 1) := by decide +kernel
theorem dX8_oneFriday_65 : decode cX8_oneFriday 65 = .ok (.getfield 7, 3) := by decide +kernel
theorem dX8_oneFriday_68 : decode cX8_oneFriday 68 = .ok (.iconst 2, 1) := by decide +kernel
theorem dX8_oneFriday_69 : decode cX8_oneFriday 69 = .ok (.iaload, 1) := by decide +kernel
theorem dX8_oneFriday_70 : decode cX8_oneFriday 70 = .ok (.if_icmp .ge 84, 3) := by decide +kernel
theorem dX8_oneFriday_73 : decode cX8_oneFriday 73 = .ok (.aload_n 0, 1) := by decide +kernel
theorem dX8_oneFriday_74 : decode cX8_oneFriday 74 = .ok (.iload_n 1, 1) := by decide +kernel
theorem dX8_oneFriday_75 : decode cX8_oneFriday 75 = .ok (.iconst 2, 1) := by decide +kernel
theorem dX8_oneFriday_76 : decode cX8_oneFriday 76 = .ok (.aload_n 0, 1) := by decide +kernel
theorem dX8_oneFriday_77 : decode cX8_oneFriday 77 = .ok (.iload_n 1, 1) := by decide +kernel
theorem dX8_oneFriday_78 : decode cX8_oneFriday 78 = .ok (.iconst 2, 1) := by decide +kernel
theorem dX8_oneFriday_79 : decode cX8_oneFriday 79 = .ok (.invokevirtual 61, 3) := by decide +kernel
theorem dX8_oneFriday_82 : decode cX8_oneFriday 82 = .ok (.aload_n 0, 1) := by decide +kernel
theorem dX8_oneFriday_83 : decode cX8_oneFriday 83 = .ok (.getfield 19, 3) := by decide +kernel
theorem dX8_oneFriday_86 : decode cX8_oneFriday 86 = .ok (.iload_n 1, 1) := by decide +kernel
theorem dX8_oneFriday_87 : decode cX8_oneFriday 87 = .ok (.iaload, 1) := by decide +kernel
theorem dX8_oneFriday_88 : decode cX8_oneFriday 88 = .ok (.iadd, 1) := by decide +kernel
theorem dX8_oneFriday_89 : decode cX8_oneFriday 89 = .ok (.iconst 0, 1) := by decide +kernel
theorem dX8_oneFriday_90 : decode cX8_oneFriday 90 = .ok (.ldc 97, 2) := by decide +kernel
theorem dX8_oneFriday_92 : decode cX8_oneFriday 92 = .ok (.invokestatic 135, 3) := by decide +kernel
theorem dX8_oneFriday_95 : decode cX8_oneFriday 95 = .ok (.invokevirtual 76, 3) := by decide +kernel
theorem dX8_oneFriday_98 : decode cX8_oneFriday 98 = .ok (.aload_n 0, 1) := by decide +kernel
theorem dX8_oneFriday_99 : decode cX8_oneFriday 99 = .ok (.iload_n 1, 1) := by decide +kernel
theorem dX8_oneFriday_100 : decode cX8_oneFriday 100 = .ok (.iconst 3, 1) := by decide +kernel
theorem dX8_oneFriday_101 : decode cX8_oneFriday 101 = .ok (.aload_n 0, 1) := by decide +kernel
theorem dX8_oneFriday_102 : decode cX8_oneFriday 102 = .ok (.iload_n 1, 1) := by decide +kernel
theorem dX8_oneFriday_103 : decode cX8_oneFriday 103 = .ok (.iconst 3, 1) := by decide +kernel
theorem dX8_oneFriday_104 : decode cX8_oneFriday 104 = .ok (.invokevirtual 61, 3) := by decide +kernel
theorem dX8_oneFriday_107 : decode cX8_oneFriday 107 = .ok (.aload_n 0, 1) := by decide +kernel
theorem dX8_oneFriday_108 : decode cX8_oneFriday 108 = .ok (.getfield 22, 3) := by decide +kernel
theorem dX8_oneFriday_111 : decode cX8_oneFriday 111 = .ok (.iload_n 1, 1) := by decide +kernel
theorem dX8_oneFriday_112 : decode cX8_oneFriday 112 = .ok (.iaload, 1) := by decide +kernel
theorem dX8_oneFriday_113 : decode cX8_oneFriday 113 = .ok (.iadd, 1) := by decide +kernel
theorem dX8_oneFriday_114 : decode cX8_oneFriday 114 = .ok (.iconst 0, 1) := by decide +kernel
theorem dX8_oneFriday_115 : decode cX8_oneFriday 115 = .ok (.bipush 99, 2) := by decide +kernel
theorem dX8_oneFriday_117 : decode cX8_oneFriday 117 = .ok (.invokestatic 135, 3) := by decide +kernel
theorem dX8_oneFriday_120 : decode cX8_oneFriday 120 = .ok (.invokevirtual 76, 3) := by decide +kernel
theorem dX8_oneFriday_123 : decode cX8_oneFriday 123 = .ok (.aload_n 0, 1) := by decide +kernel
theorem dX8_oneFriday_124 : decode cX8_oneFriday 124 = .ok (.iload_n 1, 1) := by decide +kernel
theorem dX8_oneFriday_125 : decode cX8_oneFriday 125 = .ok (.iconst 4, 1) := by decide +kernel
theorem dX8_oneFriday_126 : decode cX8_oneFriday 126 = .ok (.aload_n 0, 1) := by decide +kernel
theorem dX8_oneFriday_127 : decode cX8_oneFriday 127 = .ok (.iload_n 1, 1) := by decide +kernel
theorem dX8_oneFriday_128 : decode cX8_oneFriday 128 = .ok (.iconst 4, 1) := by decide +kernel
theorem dX8_oneFriday_129 : decode cX8_oneFriday 129 = .ok (.invokevirtual 61, 3) := by decide +kernel
theorem dX8_oneFriday_132 : decode cX8_oneFriday 132 = .ok (.aload_n 0, 1) := by decide +kernel
theorem dX8_oneFriday_133 : decode cX8_oneFriday 133 = .ok (.getfield 25, 3) := by decide +kernel
theorem dX8_oneFriday_136 : decode cX8_oneFriday 136 = .ok (.iload_n 1, 1) := by decide +kernel
theorem dX8_oneFriday_137 : decode cX8_oneFriday 137 = .ok (.iaload, 1) := by decide +kernel
theorem dX8_oneFriday_138 : decode cX8_oneFriday 138 = .ok (.iadd, 1) := by decide +kernel
theorem dX8_oneFriday_139 : decode cX8_oneFriday 139 = .ok (.iconst 0, 1) := by decide +kernel
theorem dX8_oneFriday_140 : decode cX8_oneFriday 140 = .ok (.bipush 99, 2) := by decide +kernel
theorem dX8_oneFriday_142 : decode cX8_oneFriday 142 = .ok (.invokestatic 135, 3) := by decide +kernel
theorem dX8_oneFriday_145 : decode cX8_oneFriday 145 = .ok (.invokevirtual 76, 3) := by decide +kernel
theorem dX8_oneFriday_148 : decode cX8_oneFriday 148 = .ok (.iinc 1 1, 3) := by decide +kernel
theorem dX8_oneFriday_151 : decode cX8_oneFriday 151 = .ok (.goto (-88), 3) := by decide +kernel
theorem dX8_oneFriday_154 : decode cX8_oneFriday 154 = .ok (.aload_n 0, 1) := by decide +kernel
theorem dX8_oneFriday_155 : decode cX8_oneFriday 155 = .ok (.getfield 7, 3) := by decide +kernel
theorem dX8_oneFriday_158 : decode cX8_oneFriday 158 = .ok (.iconst 0, 1) := by decide +kernel
theorem dX8_oneFriday_159 : decode cX8_oneFriday 159 = .ok (.dup2, 1) := by decide +kernel
theorem dX8_oneFriday_160 : decode cX8_oneFriday 160 = .ok (.iaload, 1) := by decide +kernel
theorem dX8_oneFriday_161 : decode cX8_oneFriday 161 = .ok (.iconst 1, 1) := by decide +kernel
theorem dX8_oneFriday_162 : decode cX8_oneFriday 162 = .ok (.iadd, 1) := by decide +kernel
theorem dX8_oneFriday_163 : decode cX8_oneFriday 163 = .ok (.iastore, 1) := by decide +kernel
theorem dX8_oneFriday_164 : decode cX8_oneFriday 164 = .ok (.return_, 1) := by decide +kernel
theorem dX8_fridays_0 : decode cX8_fridays 0 = .ok (.iload_n 1, 1) := by decide +kernel
theorem dX8_fridays_1 : decode cX8_fridays 1 = .ok (.iconst 1, 1) := by decide +kernel
theorem dX8_fridays_2 : decode cX8_fridays 2 = .ok (.bipush 60, 2) := by decide +kernel
theorem dX8_fridays_4 : decode cX8_fridays 4 = .ok (.invokestatic 57, 3) := by decide +kernel
theorem dX8_fridays_7 : decode cX8_fridays 7 = .ok (.ifCond .ne 10, 3) := by decide +kernel
theorem dX8_fridays_10 : decode cX8_fridays 10 = .ok (.aload_n 0, 1) := by decide +kernel
theorem dX8_fridays_11 : decode cX8_fridays 11 = .ok (.ldc 56, 2) := by decide +kernel
theorem dX8_fridays_13 : decode cX8_fridays 13 = .ok (.invokevirtual 83, 3) := by decide +kernel
theorem dX8_fridays_16 : decode cX8_fridays 16 = .ok (.ireturn, 1) := by decide +kernel
theorem dX8_fridays_17 : decode cX8_fridays 17 = .ok (.aload_n 0, 1) := by decide +kernel
theorem dX8_fridays_18 : decode cX8_fridays 18 = .ok (.getfield 7, 3) := by decide +kernel
theorem dX8_fridays_21 : decode cX8_fridays 21 = .ok (.iconst 0, 1) := by decide +kernel
theorem dX8_fridays_22 : decode cX8_fridays 22 = .ok (.iaload, 1) := by decide +kernel
theorem dX8_fridays_23 : decode cX8_fridays 23 = .ok (.iload_n 1, 1) := by decide +kernel
theorem dX8_fridays_24 : decode cX8_fridays 24 = .ok (.iadd, 1) := by decide +kernel
theorem dX8_fridays_25 : decode cX8_fridays 25 = .ok (.sipush 9999, 3) := by decide +kernel
theorem dX8_fridays_28 : decode cX8_fridays 28 = .ok (.if_icmp .le 10, 3) := by decide +kernel
theorem dX8_fridays_31 : decode cX8_fridays 31 = .ok (.aload_n 0, 1) := by decide +kernel
theorem dX8_fridays_32 : decode cX8_fridays 32 = .ok (.ldc 106, 2) := by decide +kernel
theorem dX8_fridays_34 : decode cX8_fridays 34 = .ok (.invokevirtual 83, 3) := by decide +kernel
theorem dX8_fridays_37 : decode cX8_fridays 37 = .ok (.ireturn, 1) := by decide +kernel
theorem dX8_fridays_38 : decode cX8_fridays 38 = .ok (.iconst 0, 1) := by decide +kernel
theorem dX8_fridays_39 : decode cX8_fridays 39 = .ok (.istore_n 2, 1) := by decide +kernel
theorem dX8_fridays_40 : decode cX8_fridays 40 = .ok (.iload_n 2, 1) := by decide +kernel
theorem dX8_fridays_41 : decode cX8_fridays 41 = .ok (.iload_n 1, 1) := by decide +kernel
theorem dX8_fridays_42 : decode cX8_fridays 42 = .ok (.if_icmp .ge 13, 3) := by decide +kernel
theorem dX8_fridays_45 : decode cX8_fridays 45 = .ok (.aload_n 0, 1) := by decide +kernel
theorem dX8_fridays_46 : decode cX8_fridays 46 = .ok (.invokevirtual 139, 3) := by decide +kernel
theorem dX8_fridays_49 : decode cX8_fridays 49 = .ok (.iinc 2 1, 3) := by decide +kernel
theorem dX8_fridays_52 : decode cX8_fridays 52 = .ok (.goto (-12), 3) := by decide +kernel
theorem dX8_fridays_55 : decode cX8_fridays 55 = .ok (.aload_n 0, 1) := by decide +kernel
theorem dX8_fridays_56 : decode cX8_fridays 56 = .ok (.iconst 2, 1) := by decide +kernel
theorem dX8_fridays_57 : decode cX8_fridays 57 = .ok (.invokevirtual 142, 3) := by decide +kernel
theorem dX8_fridays_60 : decode cX8_fridays 60 = .ok (.ireturn, 1) := by decide +kernel
theorem dX8_season_0 : decode cX8_season 0 = .ok (.iload_n 1, 1) := by decide +kernel
theorem dX8_season_1 : decode cX8_season 1 = .ok (.iconst 1, 1) := by decide +kernel
theorem dX8_season_2 : decode cX8_season 2 = .ok (.bipush 20, 2) := by decide +kernel
theorem dX8_season_4 : decode cX8_season 4 = .ok (.invokestatic 57, 3) := by decide +kernel
theorem dX8_season_7 : decode cX8_season 7 = .ok (.ifCond .ne 10, 3) := by decide +kernel
theorem dX8_season_10 : decode cX8_season 10 = .ok (.aload_n 0, 1) := by decide +kernel
theorem dX8_season_11 : decode cX8_season 11 = .ok (.ldc 56, 2) := by decide +kernel
theorem dX8_season_13 : decode cX8_season 13 = .ok (.invokevirtual 83, 3) := by decide +kernel
theorem dX8_season_16 : decode cX8_season 16 = .ok (.ireturn, 1) := by decide +kernel
theorem dX8_season_17 : decode cX8_season 17 = .ok (.aload_n 0, 1) := by decide +kernel
theorem dX8_season_18 : decode cX8_season 18 = .ok (.getfield 7, 3) := by decide +kernel
theorem dX8_season_21 : decode cX8_season 21 = .ok (.iconst 0, 1) := by decide +kernel
theorem dX8_season_22 : decode cX8_season 22 = .ok (.iaload, 1) := by decide +kernel
theorem dX8_season_23 : decode cX8_season 23 = .ok (.iload_n 1, 1) := by decide +kernel
theorem dX8_season_24 : decode cX8_season 24 = .ok (.iadd, 1) := by decide +kernel
theorem dX8_season_25 : decode cX8_season 25 = .ok (.sipush 9999, 3) := by decide +kernel
theorem dX8_season_28 : decode cX8_season 28 = .ok (.if_icmp .le 10, 3) := by decide +kernel
theorem dX8_season_31 : decode cX8_season 31 = .ok (.aload_n 0, 1) := by decide +kernel
theorem dX8_season_32 : decode cX8_season 32 = .ok (.ldc 106, 2) := by decide +kernel
theorem dX8_season_34 : decode cX8_season 34 = .ok (.invokevirtual 83, 3) := by decide +kernel
theorem dX8_season_37 : decode cX8_season 37 = .ok (.ireturn, 1) := by decide +kernel
theorem dX8_season_38 : decode cX8_season 38 = .ok (.iconst 0, 1) := by decide +kernel
theorem dX8_season_39 : decode cX8_season 39 = .ok (.istore_n 2, 1) := by decide +kernel
theorem dX8_season_40 : decode cX8_season 40 = .ok (.iload_n 2, 1) := by decide +kernel
theorem dX8_season_41 : decode cX8_season 41 = .ok (.iload_n 1, 1) := by decide +kernel
theorem dX8_season_42 : decode cX8_season 42 = .ok (.if_icmp .ge 17, 3) := by decide +kernel
theorem dX8_season_45 : decode cX8_season 45 = .ok (.aload_n 0, 1) := by decide +kernel
theorem dX8_season_46 : decode cX8_season 46 = .ok (.invokevirtual 129, 3) := by decide +kernel
theorem dX8_season_49 : decode cX8_season 49 = .ok (.aload_n 0, 1) := by decide +kernel
theorem dX8_season_50 : decode cX8_season 50 = .ok (.invokevirtual 139, 3) := by decide +kernel
theorem dX8_season_53 : decode cX8_season 53 = .ok (.iinc 2 1, 3) := by decide +kernel
theorem dX8_season_56 : decode cX8_season 56 = .ok (.goto (-16), 3) := by decide +kernel
theorem dX8_season_59 : decode cX8_season 59 = .ok (.aload_n 0, 1) := by decide +kernel
theorem dX8_season_60 : decode cX8_season 60 = .ok (.iconst 2, 1) := by decide +kernel
theorem dX8_season_61 : decode cX8_season 61 = .ok (.invokevirtual 142, 3) := by decide +kernel
theorem dX8_season_64 : decode cX8_season 64 = .ok (.ireturn, 1) := by decide +kernel
theorem dX8_children_0 : decode cX8_children 0 = .ok (.iconst 0, 1) := by decide +kernel
theorem dX8_children_1 : decode cX8_children 1 = .ok (.istore_n 1, 1) := by decide +kernel
theorem dX8_children_2 : decode cX8_children 2 = .ok (.iconst 0, 1) := by decide +kernel
theorem dX8_children_3 : decode cX8_children 3 = .ok (.istore_n 2, 1) := by decide +kernel
theorem dX8_children_4 : decode cX8_children 4 = .ok (.iload_n 2, 1) := by decide +kernel
theorem dX8_children_5 : decode cX8_children 5 = .ok (.aload_n 0, 1) := by decide +kernel
theorem dX8_children_6 : decode cX8_children 6 = .ok (.getfield 7, 3) := by decide +kernel
theorem dX8_children_9 : decode cX8_children 9 = .ok (.iconst 2, 1) := by decide +kernel
theorem dX8_children_10 : decode cX8_children 10 = .ok (.iaload, 1) := by decide +kernel
theorem dX8_children_11 : decode cX8_children 11 = .ok (.if_icmp .ge 27, 3) := by decide +kernel
theorem dX8_children_14 : decode cX8_children 14 = .ok (.iload_n 1, 1) := by decide +kernel
theorem dX8_children_15 : decode cX8_children 15 = .ok (.aload_n 0, 1) := by decide +kernel
theorem dX8_children_16 : decode cX8_children 16 = .ok (.iload_n 2, 1) := by decide +kernel
theorem dX8_children_17 : decode cX8_children 17 = .ok (.invokevirtual 65, 3) := by decide +kernel
theorem dX8_children_20 : decode cX8_children 20 = .ok (.ifCond .eq 9, 3) := by decide +kernel
theorem dX8_children_23 : decode cX8_children 23 = .ok (.iconst 1, 1) := by decide +kernel
theorem dX8_children_24 : decode cX8_children 24 = .ok (.iload_n 2, 1) := by decide +kernel
theorem dX8_children_25 : decode cX8_children 25 = .ok (.ishl, 1) := by decide +kernel
theorem dX8_children_26 : decode cX8_children 26 = .ok (.goto 4, 3) := by decide +kernel
theorem dX8_children_29 : decode cX8_children 29 = .ok (.iconst 0, 1) := by decide +kernel
theorem dX8_children_30 : decode cX8_children 30 = .ok (.ior, 1) := by decide +kernel
theorem dX8_children_31 : decode cX8_children 31 = .ok (.istore_n 1, 1) := by decide +kernel
theorem dX8_children_32 : decode cX8_children 32 = .ok (.iinc 2 1, 3) := by decide +kernel
theorem dX8_children_35 : decode cX8_children 35 = .ok (.goto (-31), 3) := by decide +kernel
theorem dX8_children_38 : decode cX8_children 38 = .ok (.iload_n 1, 1) := by decide +kernel
theorem dX8_children_39 : decode cX8_children 39 = .ok (.ireturn, 1) := by decide +kernel
theorem dX8_isRight_0 : decode cX8_isRight 0 = .ok (.iconst 1, 1) := by decide +kernel
theorem dX8_isRight_1 : decode cX8_isRight 1 = .ok (.istore_n 1, 1) := by decide +kernel
theorem dX8_isRight_2 : decode cX8_isRight 2 = .ok (.iconst 0, 1) := by decide +kernel
theorem dX8_isRight_3 : decode cX8_isRight 3 = .ok (.istore_n 2, 1) := by decide +kernel
theorem dX8_isRight_4 : decode cX8_isRight 4 = .ok (.iload_n 2, 1) := by decide +kernel
theorem dX8_isRight_5 : decode cX8_isRight 5 = .ok (.aload_n 0, 1) := by decide +kernel
theorem dX8_isRight_6 : decode cX8_isRight 6 = .ok (.getfield 7, 3) := by decide +kernel
theorem dX8_isRight_9 : decode cX8_isRight 9 = .ok (.iconst 2, 1) := by decide +kernel
theorem dX8_isRight_10 : decode cX8_isRight 10 = .ok (.iaload, 1) := by decide +kernel
theorem dX8_isRight_11 : decode cX8_isRight 11 = .ok (.if_icmp .ge 33, 3) := by decide +kernel
theorem dX8_isRight_14 : decode cX8_isRight 14 = .ok (.iload_n 1, 1) := by decide +kernel
theorem dX8_isRight_15 : decode cX8_isRight 15 = .ok (.ifCond .eq 21, 3) := by decide +kernel
theorem dX8_isRight_18 : decode cX8_isRight 18 = .ok (.aload_n 0, 1) := by decide +kernel
theorem dX8_isRight_19 : decode cX8_isRight 19 = .ok (.iload_n 2, 1) := by decide +kernel
theorem dX8_isRight_20 : decode cX8_isRight 20 = .ok (.aload_n 0, 1) := by decide +kernel
theorem dX8_isRight_21 : decode cX8_isRight 21 = .ok (.iload_n 2, 1) := by decide +kernel
theorem dX8_isRight_22 : decode cX8_isRight 22 = .ok (.iconst 5, 1) := by decide +kernel
theorem dX8_isRight_23 : decode cX8_isRight 23 = .ok (.invokevirtual 61, 3) := by decide +kernel
theorem dX8_isRight_26 : decode cX8_isRight 26 = .ok (.invokevirtual 102, 3) := by decide +kernel
theorem dX8_isRight_29 : decode cX8_isRight 29 = .ok (.ifCond .eq 7, 3) := by decide +kernel
theorem dX8_isRight_32 : decode cX8_isRight 32 = .ok (.iconst 1, 1) := by decide +kernel
theorem dX8_isRight_33 : decode cX8_isRight 33 = .ok (.goto 4, 3) := by decide +kernel
theorem dX8_isRight_36 : decode cX8_isRight 36 = .ok (.iconst 0, 1) := by decide +kernel
theorem dX8_isRight_37 : decode cX8_isRight 37 = .ok (.istore_n 1, 1) := by decide +kernel
theorem dX8_isRight_38 : decode cX8_isRight 38 = .ok (.iinc 2 1, 3) := by decide +kernel
theorem dX8_isRight_41 : decode cX8_isRight 41 = .ok (.goto (-37), 3) := by decide +kernel
theorem dX8_isRight_44 : decode cX8_isRight 44 = .ok (.iload_n 1, 1) := by decide +kernel
theorem dX8_isRight_45 : decode cX8_isRight 45 = .ok (.ireturn, 1) := by decide +kernel
theorem dX8_now_0 : decode cX8_now 0 = .ok (.iload_n 1, 1) := by decide +kernel
theorem dX8_now_1 : decode cX8_now 1 = .ok (.tableswitch 90 0 6 #[43, 50, 56, 61, 66, 71, 84], 43) := by decide +kernel
theorem dX8_now_44 : decode cX8_now 44 = .ok (.aload_n 0, 1) := by decide +kernel
theorem dX8_now_45 : decode cX8_now 45 = .ok (.getfield 7, 3) := by decide +kernel
theorem dX8_now_48 : decode cX8_now 48 = .ok (.iconst 0, 1) := by decide +kernel
theorem dX8_now_49 : decode cX8_now 49 = .ok (.iaload, 1) := by decide +kernel
theorem dX8_now_50 : decode cX8_now 50 = .ok (.ireturn, 1) := by decide +kernel
theorem dX8_now_51 : decode cX8_now 51 = .ok (.aload_n 0, 1) := by decide +kernel
theorem dX8_now_52 : decode cX8_now 52 = .ok (.iconst 2, 1) := by decide +kernel
theorem dX8_now_53 : decode cX8_now 53 = .ok (.invokevirtual 142, 3) := by decide +kernel
theorem dX8_now_56 : decode cX8_now 56 = .ok (.ireturn, 1) := by decide +kernel
theorem dX8_now_57 : decode cX8_now 57 = .ok (.aload_n 0, 1) := by decide +kernel
theorem dX8_now_58 : decode cX8_now 58 = .ok (.invokevirtual 145, 3) := by decide +kernel
theorem dX8_now_61 : decode cX8_now 61 = .ok (.ireturn, 1) := by decide +kernel
theorem dX8_now_62 : decode cX8_now 62 = .ok (.aload_n 0, 1) := by decide +kernel
theorem dX8_now_63 : decode cX8_now 63 = .ok (.invokevirtual 111, 3) := by decide +kernel
theorem dX8_now_66 : decode cX8_now 66 = .ok (.ireturn, 1) := by decide +kernel
theorem dX8_now_67 : decode cX8_now 67 = .ok (.aload_n 0, 1) := by decide +kernel
theorem dX8_now_68 : decode cX8_now 68 = .ok (.invokevirtual 148, 3) := by decide +kernel
theorem dX8_now_71 : decode cX8_now 71 = .ok (.ireturn, 1) := by decide +kernel
theorem dX8_now_72 : decode cX8_now 72 = .ok (.aload_n 0, 1) := by decide +kernel
theorem dX8_now_73 : decode cX8_now 73 = .ok (.invokevirtual 151, 3) := by decide +kernel
theorem dX8_now_76 : decode cX8_now 76 = .ok (.ifCond .eq 7, 3) := by decide +kernel
theorem dX8_now_79 : decode cX8_now 79 = .ok (.iconst 1, 1) := by decide +kernel
theorem dX8_now_80 : decode cX8_now 80 = .ok (.goto 4, 3) := by decide +kernel
theorem dX8_now_83 : decode cX8_now 83 = .ok (.iconst 0, 1) := by decide +kernel
theorem dX8_now_84 : decode cX8_now 84 = .ok (.ireturn, 1) := by decide +kernel
theorem dX8_now_85 : decode cX8_now 85 = .ok (.aload_n 0, 1) := by decide +kernel
theorem dX8_now_86 : decode cX8_now 86 = .ok (.iconst 4, 1) := by decide +kernel
theorem dX8_now_87 : decode cX8_now 87 = .ok (.invokevirtual 142, 3) := by decide +kernel
theorem dX8_now_90 : decode cX8_now 90 = .ok (.ireturn, 1) := by decide +kernel
theorem dX8_now_91 : decode cX8_now 91 = .ok (.aload_n 0, 1) := by decide +kernel
theorem dX8_now_92 : decode cX8_now 92 = .ok (.ldc 56, 2) := by decide +kernel
theorem dX8_now_94 : decode cX8_now 94 = .ok (.invokevirtual 83, 3) := by decide +kernel
theorem dX8_now_97 : decode cX8_now 97 = .ok (.ireturn, 1) := by decide +kernel
theorem dX8_whoHas_0 : decode cX8_whoHas 0 = .ok (.iconst 0, 1) := by decide +kernel
theorem dX8_whoHas_1 : decode cX8_whoHas 1 = .ok (.istore_n 2, 1) := by decide +kernel
theorem dX8_whoHas_2 : decode cX8_whoHas 2 = .ok (.aload_n 0, 1) := by decide +kernel
theorem dX8_whoHas_3 : decode cX8_whoHas 3 = .ok (.iload_n 2, 1) := by decide +kernel
theorem dX8_whoHas_4 : decode cX8_whoHas 4 = .ok (.iconst 5, 1) := by decide +kernel
theorem dX8_whoHas_5 : decode cX8_whoHas 5 = .ok (.invokevirtual 61, 3) := by decide +kernel
theorem dX8_whoHas_8 : decode cX8_whoHas 8 = .ok (.iload_n 1, 1) := by decide +kernel
theorem dX8_whoHas_9 : decode cX8_whoHas 9 = .ok (.if_icmp .eq 9, 3) := by decide +kernel
theorem dX8_whoHas_12 : decode cX8_whoHas 12 = .ok (.iinc 2 1, 3) := by decide +kernel
theorem dX8_whoHas_15 : decode cX8_whoHas 15 = .ok (.goto (-13), 3) := by decide +kernel
theorem dX8_whoHas_18 : decode cX8_whoHas 18 = .ok (.iload_n 2, 1) := by decide +kernel
theorem dX8_whoHas_19 : decode cX8_whoHas 19 = .ok (.ireturn, 1) := by decide +kernel
theorem dX8_who_0 : decode cX8_who 0 = .ok (.aload_n 0, 1) := by decide +kernel
theorem dX8_who_1 : decode cX8_who 1 = .ok (.iload_n 1, 1) := by decide +kernel
theorem dX8_who_2 : decode cX8_who 2 = .ok (.invokevirtual 91, 3) := by decide +kernel
theorem dX8_who_5 : decode cX8_who 5 = .ok (.ifCond .eq 11, 3) := by decide +kernel
theorem dX8_who_8 : decode cX8_who 8 = .ok (.aload_n 0, 1) := by decide +kernel
theorem dX8_who_9 : decode cX8_who 9 = .ok (.iload_n 1, 1) := by decide +kernel
theorem dX8_who_10 : decode cX8_who 10 = .ok (.invokevirtual 155, 3) := by decide +kernel
theorem dX8_who_13 : decode cX8_who 13 = .ok (.goto 9, 3) := by decide +kernel
theorem dX8_who_16 : decode cX8_who 16 = .ok (.aload_n 0, 1) := by decide +kernel
theorem dX8_who_17 : decode cX8_who 17 = .ok (.ldc 56, 2) := by decide +kernel
theorem dX8_who_19 : decode cX8_who 19 = .ok (.invokevirtual 83, 3) := by decide +kernel
theorem dX8_who_22 : decode cX8_who 22 = .ok (.ireturn, 1) := by decide +kernel
theorem dX8_ringOf_0 : decode cX8_ringOf 0 = .ok (.iconst 0, 1) := by decide +kernel
theorem dX8_ringOf_1 : decode cX8_ringOf 1 = .ok (.istore_n 2, 1) := by decide +kernel
theorem dX8_ringOf_2 : decode cX8_ringOf 2 = .ok (.iload_n 1, 1) := by decide +kernel
theorem dX8_ringOf_3 : decode cX8_ringOf 3 = .ok (.istore_n 3, 1) := by decide +kernel
theorem dX8_ringOf_4 : decode cX8_ringOf 4 = .ok (.iload_n 2, 1) := by decide +kernel
theorem dX8_ringOf_5 : decode cX8_ringOf 5 = .ok (.iload_n 3, 1) := by decide +kernel
theorem dX8_ringOf_6 : decode cX8_ringOf 6 = .ok (.ishr, 1) := by decide +kernel
theorem dX8_ringOf_7 : decode cX8_ringOf 7 = .ok (.iconst 1, 1) := by decide +kernel
theorem dX8_ringOf_8 : decode cX8_ringOf 8 = .ok (.iand, 1) := by decide +kernel
theorem dX8_ringOf_9 : decode cX8_ringOf 9 = .ok (.ifCond .ne 19, 3) := by decide +kernel
theorem dX8_ringOf_12 : decode cX8_ringOf 12 = .ok (.iload_n 2, 1) := by decide +kernel
theorem dX8_ringOf_13 : decode cX8_ringOf 13 = .ok (.iconst 1, 1) := by decide +kernel
theorem dX8_ringOf_14 : decode cX8_ringOf 14 = .ok (.iload_n 3, 1) := by decide +kernel
theorem dX8_ringOf_15 : decode cX8_ringOf 15 = .ok (.ishl, 1) := by decide +kernel
theorem dX8_ringOf_16 : decode cX8_ringOf 16 = .ok (.ior, 1) := by decide +kernel
theorem dX8_ringOf_17 : decode cX8_ringOf 17 = .ok (.istore_n 2, 1) := by decide +kernel
theorem dX8_ringOf_18 : decode cX8_ringOf 18 = .ok (.aload_n 0, 1) := by decide +kernel
theorem dX8_ringOf_19 : decode cX8_ringOf 19 = .ok (.iload_n 3, 1) := by decide +kernel
theorem dX8_ringOf_20 : decode cX8_ringOf 20 = .ok (.iconst 5, 1) := by decide +kernel
theorem dX8_ringOf_21 : decode cX8_ringOf 21 = .ok (.invokevirtual 61, 3) := by decide +kernel
theorem dX8_ringOf_24 : decode cX8_ringOf 24 = .ok (.istore_n 3, 1) := by decide +kernel
theorem dX8_ringOf_25 : decode cX8_ringOf 25 = .ok (.goto (-21), 3) := by decide +kernel
theorem dX8_ringOf_28 : decode cX8_ringOf 28 = .ok (.iload_n 2, 1) := by decide +kernel
theorem dX8_ringOf_29 : decode cX8_ringOf 29 = .ok (.ireturn, 1) := by decide +kernel
theorem dX8_ring_0 : decode cX8_ring 0 = .ok (.aload_n 0, 1) := by decide +kernel
theorem dX8_ring_1 : decode cX8_ring 1 = .ok (.iload_n 1, 1) := by decide +kernel
theorem dX8_ring_2 : decode cX8_ring 2 = .ok (.invokevirtual 91, 3) := by decide +kernel
theorem dX8_ring_5 : decode cX8_ring 5 = .ok (.ifCond .eq 11, 3) := by decide +kernel
theorem dX8_ring_8 : decode cX8_ring 8 = .ok (.aload_n 0, 1) := by decide +kernel
theorem dX8_ring_9 : decode cX8_ring 9 = .ok (.iload_n 1, 1) := by decide +kernel
theorem dX8_ring_10 : decode cX8_ring 10 = .ok (.invokevirtual 158, 3) := by decide +kernel
theorem dX8_ring_13 : decode cX8_ring 13 = .ok (.goto 9, 3) := by decide +kernel
theorem dX8_ring_16 : decode cX8_ring 16 = .ok (.aload_n 0, 1) := by decide +kernel
theorem dX8_ring_17 : decode cX8_ring 17 = .ok (.ldc 56, 2) := by decide +kernel
theorem dX8_ring_19 : decode cX8_ring 19 = .ok (.invokevirtual 83, 3) := by decide +kernel
theorem dX8_ring_22 : decode cX8_ring 22 = .ok (.ireturn, 1) := by decide +kernel
theorem dX8_rings_0 : decode cX8_rings 0 = .ok (.iconst 0, 1) := by decide +kernel
theorem dX8_rings_1 : decode cX8_rings 1 = .ok (.istore_n 1, 1) := by decide +kernel
theorem dX8_rings_2 : decode cX8_rings 2 = .ok (.iconst 0, 1) := by decide +kernel
theorem dX8_rings_3 : decode cX8_rings 3 = .ok (.istore_n 2, 1) := by decide +kernel
theorem dX8_rings_4 : decode cX8_rings 4 = .ok (.iconst 0, 1) := by decide +kernel
theorem dX8_rings_5 : decode cX8_rings 5 = .ok (.istore_n 3, 1) := by decide +kernel
theorem dX8_rings_6 : decode cX8_rings 6 = .ok (.iload_n 3, 1) := by decide +kernel
theorem dX8_rings_7 : decode cX8_rings 7 = .ok (.aload_n 0, 1) := by decide +kernel
theorem dX8_rings_8 : decode cX8_rings 8 = .ok (.getfield 7, 3) := by decide +kernel
theorem dX8_rings_11 : decode cX8_rings 11 = .ok (.iconst 2, 1) := by decide +kernel
theorem dX8_rings_12 : decode cX8_rings 12 = .ok (.iaload, 1) := by decide +kernel
theorem dX8_rings_13 : decode cX8_rings 13 = .ok (.if_icmp .ge 33, 3) := by decide +kernel
theorem dX8_rings_16 : decode cX8_rings 16 = .ok (.iload_n 1, 1) := by decide +kernel
theorem dX8_rings_17 : decode cX8_rings 17 = .ok (.iload_n 2, 1) := by decide +kernel
theorem dX8_rings_18 : decode cX8_rings 18 = .ok (.iload_n 3, 1) := by decide +kernel
theorem dX8_rings_19 : decode cX8_rings 19 = .ok (.ishr, 1) := by decide +kernel
theorem dX8_rings_20 : decode cX8_rings 20 = .ok (.iconst 1, 1) := by decide +kernel
theorem dX8_rings_21 : decode cX8_rings 21 = .ok (.iand, 1) := by decide +kernel
theorem dX8_rings_22 : decode cX8_rings 22 = .ok (.ifCond .ne 7, 3) := by decide +kernel
theorem dX8_rings_25 : decode cX8_rings 25 = .ok (.iconst 1, 1) := by decide +kernel
theorem dX8_rings_26 : decode cX8_rings 26 = .ok (.goto 4, 3) := by decide +kernel
theorem dX8_rings_29 : decode cX8_rings 29 = .ok (.iconst 0, 1) := by decide +kernel
theorem dX8_rings_30 : decode cX8_rings 30 = .ok (.iadd, 1) := by decide +kernel
theorem dX8_rings_31 : decode cX8_rings 31 = .ok (.istore_n 1, 1) := by decide +kernel
theorem dX8_rings_32 : decode cX8_rings 32 = .ok (.iload_n 2, 1) := by decide +kernel
theorem dX8_rings_33 : decode cX8_rings 33 = .ok (.aload_n 0, 1) := by decide +kernel
theorem dX8_rings_34 : decode cX8_rings 34 = .ok (.iload_n 3, 1) := by decide +kernel
theorem dX8_rings_35 : decode cX8_rings 35 = .ok (.invokevirtual 158, 3) := by decide +kernel
theorem dX8_rings_38 : decode cX8_rings 38 = .ok (.ior, 1) := by decide +kernel
theorem dX8_rings_39 : decode cX8_rings 39 = .ok (.istore_n 2, 1) := by decide +kernel
theorem dX8_rings_40 : decode cX8_rings 40 = .ok (.iinc 3 1, 3) := by decide +kernel
theorem dX8_rings_43 : decode cX8_rings 43 = .ok (.goto (-37), 3) := by decide +kernel
theorem dX8_rings_46 : decode cX8_rings 46 = .ok (.iload_n 1, 1) := by decide +kernel
theorem dX8_rings_47 : decode cX8_rings 47 = .ok (.ireturn, 1) := by decide +kernel
theorem dX8_pairs_0 : decode cX8_pairs 0 = .ok (.iconst 0, 1) := by decide +kernel
theorem dX8_pairs_1 : decode cX8_pairs 1 = .ok (.istore_n 1, 1) := by decide +kernel
theorem dX8_pairs_2 : decode cX8_pairs 2 = .ok (.iconst 0, 1) := by decide +kernel
theorem dX8_pairs_3 : decode cX8_pairs 3 = .ok (.istore_n 2, 1) := by decide +kernel
theorem dX8_pairs_4 : decode cX8_pairs 4 = .ok (.iload_n 2, 1) := by decide +kernel
theorem dX8_pairs_5 : decode cX8_pairs 5 = .ok (.aload_n 0, 1) := by decide +kernel
theorem dX8_pairs_6 : decode cX8_pairs 6 = .ok (.getfield 7, 3) := by decide +kernel
theorem dX8_pairs_9 : decode cX8_pairs 9 = .ok (.iconst 2, 1) := by decide +kernel
theorem dX8_pairs_10 : decode cX8_pairs 10 = .ok (.iaload, 1) := by decide +kernel
theorem dX8_pairs_11 : decode cX8_pairs 11 = .ok (.if_icmp .ge 42, 3) := by decide +kernel
theorem dX8_pairs_14 : decode cX8_pairs 14 = .ok (.iload_n 1, 1) := by decide +kernel
theorem dX8_pairs_15 : decode cX8_pairs 15 = .ok (.aload_n 0, 1) := by decide +kernel
theorem dX8_pairs_16 : decode cX8_pairs 16 = .ok (.iload_n 2, 1) := by decide +kernel
theorem dX8_pairs_17 : decode cX8_pairs 17 = .ok (.iconst 5, 1) := by decide +kernel
theorem dX8_pairs_18 : decode cX8_pairs 18 = .ok (.invokevirtual 61, 3) := by decide +kernel
theorem dX8_pairs_21 : decode cX8_pairs 21 = .ok (.iload_n 2, 1) := by decide +kernel
theorem dX8_pairs_22 : decode cX8_pairs 22 = .ok (.if_icmp .le 22, 3) := by decide +kernel
theorem dX8_pairs_25 : decode cX8_pairs 25 = .ok (.aload_n 0, 1) := by decide +kernel
theorem dX8_pairs_26 : decode cX8_pairs 26 = .ok (.aload_n 0, 1) := by decide +kernel
theorem dX8_pairs_27 : decode cX8_pairs 27 = .ok (.iload_n 2, 1) := by decide +kernel
theorem dX8_pairs_28 : decode cX8_pairs 28 = .ok (.iconst 5, 1) := by decide +kernel
theorem dX8_pairs_29 : decode cX8_pairs 29 = .ok (.invokevirtual 61, 3) := by decide +kernel
theorem dX8_pairs_32 : decode cX8_pairs 32 = .ok (.iconst 5, 1) := by decide +kernel
theorem dX8_pairs_33 : decode cX8_pairs 33 = .ok (.invokevirtual 61, 3) := by decide +kernel
theorem dX8_pairs_36 : decode cX8_pairs 36 = .ok (.iload_n 2, 1) := by decide +kernel
theorem dX8_pairs_37 : decode cX8_pairs 37 = .ok (.if_icmp .ne 7, 3) := by decide +kernel
theorem dX8_pairs_40 : decode cX8_pairs 40 = .ok (.iconst 1, 1) := by decide +kernel
theorem dX8_pairs_41 : decode cX8_pairs 41 = .ok (.goto 4, 3) := by decide +kernel
theorem dX8_pairs_44 : decode cX8_pairs 44 = .ok (.iconst 0, 1) := by decide +kernel
theorem dX8_pairs_45 : decode cX8_pairs 45 = .ok (.iadd, 1) := by decide +kernel
theorem dX8_pairs_46 : decode cX8_pairs 46 = .ok (.istore_n 1, 1) := by decide +kernel
theorem dX8_pairs_47 : decode cX8_pairs 47 = .ok (.iinc 2 1, 3) := by decide +kernel
theorem dX8_pairs_50 : decode cX8_pairs 50 = .ok (.goto (-46), 3) := by decide +kernel
theorem dX8_pairs_53 : decode cX8_pairs 53 = .ok (.iload_n 1, 1) := by decide +kernel
theorem dX8_pairs_54 : decode cX8_pairs 54 = .ok (.ireturn, 1) := by decide +kernel
theorem dX8_on_0 : decode cX8_on 0 = .ok (.aload_n 0, 1) := by decide +kernel
theorem dX8_on_1 : decode cX8_on 1 = .ok (.iload_n 1, 1) := by decide +kernel
theorem dX8_on_2 : decode cX8_on 2 = .ok (.invokevirtual 91, 3) := by decide +kernel
theorem dX8_on_5 : decode cX8_on 5 = .ok (.ifCond .eq 22, 3) := by decide +kernel
theorem dX8_on_8 : decode cX8_on 8 = .ok (.iload_n 2, 1) := by decide +kernel
theorem dX8_on_9 : decode cX8_on 9 = .ok (.iconst 0, 1) := by decide +kernel
theorem dX8_on_10 : decode cX8_on 10 = .ok (.bipush 60, 2) := by decide +kernel
theorem dX8_on_12 : decode cX8_on 12 = .ok (.invokestatic 57, 3) := by decide +kernel
theorem dX8_on_15 : decode cX8_on 15 = .ok (.ifCond .eq 12, 3) := by decide +kernel
theorem dX8_on_18 : decode cX8_on 18 = .ok (.iload_n 3, 1) := by decide +kernel
theorem dX8_on_19 : decode cX8_on 19 = .ok (.iconst 0, 1) := by decide +kernel
theorem dX8_on_20 : decode cX8_on 20 = .ok (.iconst 2, 1) := by decide +kernel
theorem dX8_on_21 : decode cX8_on 21 = .ok (.invokestatic 57, 3) := by decide +kernel
theorem dX8_on_24 : decode cX8_on 24 = .ok (.ifCond .ne 10, 3) := by decide +kernel
theorem dX8_on_27 : decode cX8_on 27 = .ok (.aload_n 0, 1) := by decide +kernel
theorem dX8_on_28 : decode cX8_on 28 = .ok (.ldc 56, 2) := by decide +kernel
theorem dX8_on_30 : decode cX8_on 30 = .ok (.invokevirtual 83, 3) := by decide +kernel
theorem dX8_on_33 : decode cX8_on 33 = .ok (.ireturn, 1) := by decide +kernel
theorem dX8_on_34 : decode cX8_on 34 = .ok (.aload_n 0, 1) := by decide +kernel
theorem dX8_on_35 : decode cX8_on 35 = .ok (.iconst 1, 1) := by decide +kernel
theorem dX8_on_36 : decode cX8_on 36 = .ok (.aload_n 0, 1) := by decide +kernel
theorem dX8_on_37 : decode cX8_on 37 = .ok (.getfield 28, 3) := by decide +kernel
theorem dX8_on_40 : decode cX8_on 40 = .ok (.invokevirtual 161, 3) := by decide +kernel
theorem dX8_on_43 : decode cX8_on 43 = .ok (.iconst 0, 1) := by decide +kernel
theorem dX8_on_44 : decode cX8_on 44 = .ok (.istore 4, 2) := by decide +kernel
theorem dX8_on_46 : decode cX8_on 46 = .ok (.iload 4, 2) := by decide +kernel
theorem dX8_on_48 : decode cX8_on 48 = .ok (.iload_n 2, 1) := by decide +kernel
theorem dX8_on_49 : decode cX8_on 49 = .ok (.if_icmp .ge 13, 3) := by decide +kernel
theorem dX8_on_52 : decode cX8_on 52 = .ok (.aload_n 0, 1) := by decide +kernel
theorem dX8_on_53 : decode cX8_on 53 = .ok (.invokevirtual 139, 3) := by decide +kernel
theorem dX8_on_56 : decode cX8_on 56 = .ok (.iinc 4 1, 3) := by decide +kernel
theorem dX8_on_59 : decode cX8_on 59 = .ok (.goto (-13), 3) := by decide +kernel
theorem dX8_on_62 : decode cX8_on 62 = .ok (.aload_n 0, 1) := by decide +kernel
theorem dX8_on_63 : decode cX8_on 63 = .ok (.iload_n 1, 1) := by decide +kernel
theorem dX8_on_64 : decode cX8_on 64 = .ok (.iconst 2, 1) := by decide +kernel
theorem dX8_on_65 : decode cX8_on 65 = .ok (.iload_n 3, 1) := by decide +kernel
theorem dX8_on_66 : decode cX8_on 66 = .ok (.iadd, 1) := by decide +kernel
theorem dX8_on_67 : decode cX8_on 67 = .ok (.invokevirtual 61, 3) := by decide +kernel
theorem dX8_on_70 : decode cX8_on 70 = .ok (.istore 4, 2) := by decide +kernel
theorem dX8_on_72 : decode cX8_on 72 = .ok (.aload_n 0, 1) := by decide +kernel
theorem dX8_on_73 : decode cX8_on 73 = .ok (.iconst 0, 1) := by decide +kernel
theorem dX8_on_74 : decode cX8_on 74 = .ok (.aload_n 0, 1) := by decide +kernel
theorem dX8_on_75 : decode cX8_on 75 = .ok (.getfield 28, 3) := by decide +kernel
theorem dX8_on_78 : decode cX8_on 78 = .ok (.invokevirtual 161, 3) := by decide +kernel
theorem dX8_on_81 : decode cX8_on 81 = .ok (.iload 4, 2) := by decide +kernel
theorem dX8_on_83 : decode cX8_on 83 = .ok (.ireturn, 1) := by decide +kernel
theorem dX8_itself_0 : decode cX8_itself 0 = .ok (.aload_n 0, 1) := by decide +kernel
theorem dX8_itself_1 : decode cX8_itself 1 = .ok (.iload_n 1, 1) := by decide +kernel
theorem dX8_itself_2 : decode cX8_itself 2 = .ok (.invokevirtual 91, 3) := by decide +kernel
theorem dX8_itself_5 : decode cX8_itself 5 = .ok (.ifCond .ne 10, 3) := by decide +kernel
theorem dX8_itself_8 : decode cX8_itself 8 = .ok (.aload_n 0, 1) := by decide +kernel
theorem dX8_itself_9 : decode cX8_itself 9 = .ok (.ldc 56, 2) := by decide +kernel
theorem dX8_itself_11 : decode cX8_itself 11 = .ok (.invokevirtual 83, 3) := by decide +kernel
theorem dX8_itself_14 : decode cX8_itself 14 = .ok (.ireturn, 1) := by decide +kernel
theorem dX8_itself_15 : decode cX8_itself 15 = .ok (.aload_n 0, 1) := by decide +kernel
theorem dX8_itself_16 : decode cX8_itself 16 = .ok (.iconst 1, 1) := by decide +kernel
theorem dX8_itself_17 : decode cX8_itself 17 = .ok (.aload_n 0, 1) := by decide +kernel
theorem dX8_itself_18 : decode cX8_itself 18 = .ok (.getfield 28, 3) := by decide +kernel
theorem dX8_itself_21 : decode cX8_itself 21 = .ok (.invokevirtual 161, 3) := by decide +kernel
theorem dX8_itself_24 : decode cX8_itself 24 = .ok (.iconst 0, 1) := by decide +kernel
theorem dX8_itself_25 : decode cX8_itself 25 = .ok (.istore_n 2, 1) := by decide +kernel
theorem dX8_itself_26 : decode cX8_itself 26 = .ok (.iconst 0, 1) := by decide +kernel
theorem dX8_itself_27 : decode cX8_itself 27 = .ok (.istore_n 3, 1) := by decide +kernel
theorem dX8_itself_28 : decode cX8_itself 28 = .ok (.iload_n 2, 1) := by decide +kernel
theorem dX8_itself_29 : decode cX8_itself 29 = .ok (.bipush 60, 2) := by decide +kernel
theorem dX8_itself_31 : decode cX8_itself 31 = .ok (.if_icmp .ge 33, 3) := by decide +kernel
theorem dX8_itself_34 : decode cX8_itself 34 = .ok (.iload_n 3, 1) := by decide +kernel
theorem dX8_itself_35 : decode cX8_itself 35 = .ok (.ifCond .ne 29, 3) := by decide +kernel
theorem dX8_itself_38 : decode cX8_itself 38 = .ok (.aload_n 0, 1) := by decide +kernel
theorem dX8_itself_39 : decode cX8_itself 39 = .ok (.invokevirtual 129, 3) := by decide +kernel
theorem dX8_itself_42 : decode cX8_itself 42 = .ok (.iinc 2 1, 3) := by decide +kernel
theorem dX8_itself_45 : decode cX8_itself 45 = .ok (.aload_n 0, 1) := by decide +kernel
theorem dX8_itself_46 : decode cX8_itself 46 = .ok (.iload_n 1, 1) := by decide +kernel
theorem dX8_itself_47 : decode cX8_itself 47 = .ok (.iconst 5, 1) := by decide +kernel
theorem dX8_itself_48 : decode cX8_itself 48 = .ok (.invokevirtual 61, 3) := by decide +kernel
theorem dX8_itself_51 : decode cX8_itself 51 = .ok (.iload_n 1, 1) := by decide +kernel
theorem dX8_itself_52 : decode cX8_itself 52 = .ok (.if_icmp .ne 7, 3) := by decide +kernel
theorem dX8_itself_55 : decode cX8_itself 55 = .ok (.iconst 1, 1) := by decide +kernel
theorem dX8_itself_56 : decode cX8_itself 56 = .ok (.goto 4, 3) := by decide +kernel
theorem dX8_itself_59 : decode cX8_itself 59 = .ok (.iconst 0, 1) := by decide +kernel
theorem dX8_itself_60 : decode cX8_itself 60 = .ok (.istore_n 3, 1) := by decide +kernel
theorem dX8_itself_61 : decode cX8_itself 61 = .ok (.goto (-33), 3) := by decide +kernel
theorem dX8_itself_64 : decode cX8_itself 64 = .ok (.aload_n 0, 1) := by decide +kernel
theorem dX8_itself_65 : decode cX8_itself 65 = .ok (.iconst 0, 1) := by decide +kernel
theorem dX8_itself_66 : decode cX8_itself 66 = .ok (.aload_n 0, 1) := by decide +kernel
theorem dX8_itself_67 : decode cX8_itself 67 = .ok (.getfield 28, 3) := by decide +kernel
theorem dX8_itself_70 : decode cX8_itself 70 = .ok (.invokevirtual 161, 3) := by decide +kernel
theorem dX8_itself_73 : decode cX8_itself 73 = .ok (.iload_n 3, 1) := by decide +kernel
theorem dX8_itself_74 : decode cX8_itself 74 = .ok (.ifCond .eq 7, 3) := by decide +kernel
theorem dX8_itself_77 : decode cX8_itself 77 = .ok (.iload_n 2, 1) := by decide +kernel
theorem dX8_itself_78 : decode cX8_itself 78 = .ok (.goto 9, 3) := by decide +kernel
theorem dX8_itself_81 : decode cX8_itself 81 = .ok (.aload_n 0, 1) := by decide +kernel
theorem dX8_itself_82 : decode cX8_itself 82 = .ok (.ldc 165, 2) := by decide +kernel
theorem dX8_itself_84 : decode cX8_itself 84 = .ok (.invokevirtual 83, 3) := by decide +kernel
theorem dX8_itself_87 : decode cX8_itself 87 = .ok (.ireturn, 1) := by decide +kernel
theorem dX8_findMost_0 : decode cX8_findMost 0 = .ok (.aload_n 0, 1) := by decide +kernel
theorem dX8_findMost_1 : decode cX8_findMost 1 = .ok (.getfield 7, 3) := by decide +kernel
theorem dX8_findMost_4 : decode cX8_findMost 4 = .ok (.iconst 2, 1) := by decide +kernel
theorem dX8_findMost_5 : decode cX8_findMost 5 = .ok (.iaload, 1) := by decide +kernel
theorem dX8_findMost_6 : decode cX8_findMost 6 = .ok (.istore_n 1, 1) := by decide +kernel
theorem dX8_findMost_7 : decode cX8_findMost 7 = .ok (.iconst 1, 1) := by decide +kernel
theorem dX8_findMost_8 : decode cX8_findMost 8 = .ok (.iload_n 1, 1) := by decide +kernel
theorem dX8_findMost_9 : decode cX8_findMost 9 = .ok (.ishl, 1) := by decide +kernel
theorem dX8_findMost_10 : decode cX8_findMost 10 = .ok (.iconst 1, 1) := by decide +kernel
theorem dX8_findMost_11 : decode cX8_findMost 11 = .ok (.isub, 1) := by decide +kernel
theorem dX8_findMost_12 : decode cX8_findMost 12 = .ok (.istore_n 2, 1) := by decide +kernel
theorem dX8_findMost_13 : decode cX8_findMost 13 = .ok (.aload_n 0, 1) := by decide +kernel
theorem dX8_findMost_14 : decode cX8_findMost 14 = .ok (.getfield 31, 3) := by decide +kernel
theorem dX8_findMost_17 : decode cX8_findMost 17 = .ok (.iload_n 2, 1) := by decide +kernel
theorem dX8_findMost_18 : decode cX8_findMost 18 = .ok (.iconst 0, 1) := by decide +kernel
theorem dX8_findMost_19 : decode cX8_findMost 19 = .ok (.iastore, 1) := by decide +kernel
theorem dX8_findMost_20 : decode cX8_findMost 20 = .ok (.iload_n 2, 1) := by decide +kernel
theorem dX8_findMost_21 : decode cX8_findMost 21 = .ok (.iconst 1, 1) := by decide +kernel
theorem dX8_findMost_22 : decode cX8_findMost 22 = .ok (.isub, 1) := by decide +kernel
theorem dX8_findMost_23 : decode cX8_findMost 23 = .ok (.istore_n 3, 1) := by decide +kernel
theorem dX8_findMost_24 : decode cX8_findMost 24 = .ok (.iload_n 3, 1) := by decide +kernel
theorem dX8_findMost_25 : decode cX8_findMost 25 = .ok (.ifCond .lt 121, 3) := by decide +kernel
theorem dX8_findMost_28 : decode cX8_findMost 28 = .ok (.iload_n 3, 1) := by decide +kernel
theorem dX8_findMost_29 : decode cX8_findMost 29 = .ok (.invokestatic 115, 3) := by decide +kernel
theorem dX8_findMost_32 : decode cX8_findMost 32 = .ok (.istore 4, 2) := by decide +kernel
theorem dX8_findMost_34 : decode cX8_findMost 34 = .ok (.aload_n 0, 1) := by decide +kernel
theorem dX8_findMost_35 : decode cX8_findMost 35 = .ok (.getfield 31, 3) := by decide +kernel
theorem dX8_findMost_38 : decode cX8_findMost 38 = .ok (.iload_n 3, 1) := by decide +kernel
theorem dX8_findMost_39 : decode cX8_findMost 39 = .ok (.iconst (-1), 1) := by decide +kernel
theorem dX8_findMost_40 : decode cX8_findMost 40 = .ok (.iastore, 1) := by decide +kernel
theorem dX8_findMost_41 : decode cX8_findMost 41 = .ok (.iconst 0, 1) := by decide +kernel
theorem dX8_findMost_42 : decode cX8_findMost 42 = .ok (.istore 5, 2) := by decide +kernel
theorem dX8_findMost_44 : decode cX8_findMost 44 = .ok (.iload 5, 2) := by decide +kernel
theorem dX8_findMost_46 : decode cX8_findMost 46 = .ok (.iload_n 1, 1) := by decide +kernel
theorem dX8_findMost_47 : decode cX8_findMost 47 = .ok (.if_icmp .ge 93, 3) := by decide +kernel
theorem dX8_findMost_50 : decode cX8_findMost 50 = .ok (.iload_n 3, 1) := by decide +kernel
theorem dX8_findMost_51 : decode cX8_findMost 51 = .ok (.iload 5, 2) := by decide +kernel
theorem dX8_findMost_53 : decode cX8_findMost 53 = .ok (.ishr, 1) := by decide +kernel
theorem dX8_findMost_54 : decode cX8_findMost 54 = .ok (.iconst 1, 1) := by decide +kernel
theorem dX8_findMost_55 : decode cX8_findMost 55 = .ok (.iand, 1) := by decide +kernel
theorem dX8_findMost_56 : decode cX8_findMost 56 = .ok (.ifCond .ne 78, 3) := by decide +kernel
theorem dX8_findMost_59 : decode cX8_findMost 59 = .ok (.aload_n 0, 1) := by decide +kernel
theorem dX8_findMost_60 : decode cX8_findMost 60 = .ok (.iload 4, 2) := by decide +kernel
theorem dX8_findMost_62 : decode cX8_findMost 62 = .ok (.iload 5, 2) := by decide +kernel
theorem dX8_findMost_64 : decode cX8_findMost 64 = .ok (.invokevirtual 102, 3) := by decide +kernel
theorem dX8_findMost_67 : decode cX8_findMost 67 = .ok (.ifCond .eq 67, 3) := by decide +kernel
theorem dX8_findMost_70 : decode cX8_findMost 70 = .ok (.aload_n 0, 1) := by decide +kernel
theorem dX8_findMost_71 : decode cX8_findMost 71 = .ok (.getfield 31, 3) := by decide +kernel
theorem dX8_findMost_74 : decode cX8_findMost 74 = .ok (.iload_n 3, 1) := by decide +kernel
theorem dX8_findMost_75 : decode cX8_findMost 75 = .ok (.iconst 1, 1) := by decide +kernel
theorem dX8_findMost_76 : decode cX8_findMost 76 = .ok (.iload 5, 2) := by decide +kernel
theorem dX8_findMost_78 : decode cX8_findMost 78 = .ok (.ishl, 1) := by decide +kernel
theorem dX8_findMost_79 : decode cX8_findMost 79 = .ok (.ior, 1) := by decide +kernel
theorem dX8_findMost_80 : decode cX8_findMost 80 = .ok (.iaload, 1) := by decide +kernel
theorem dX8_findMost_81 : decode cX8_findMost 81 = .ok (.ifCond .lt 53, 3) := by decide +kernel
theorem dX8_findMost_84 : decode cX8_findMost 84 = .ok (.aload_n 0, 1) := by decide +kernel
theorem dX8_findMost_85 : decode cX8_findMost 85 = .ok (.iload 4, 2) := by decide +kernel
theorem dX8_findMost_87 : decode cX8_findMost 87 = .ok (.iload 5, 2) := by decide +kernel
theorem dX8_findMost_89 : decode cX8_findMost 89 = .ok (.invokevirtual 69, 3) := by decide +kernel
theorem dX8_findMost_92 : decode cX8_findMost 92 = .ok (.aload_n 0, 1) := by decide +kernel
theorem dX8_findMost_93 : decode cX8_findMost 93 = .ok (.getfield 31, 3) := by decide +kernel
theorem dX8_findMost_96 : decode cX8_findMost 96 = .ok (.iload_n 3, 1) := by decide +kernel
theorem dX8_findMost_97 : decode cX8_findMost 97 = .ok (.iconst 1, 1) := by decide +kernel
theorem dX8_findMost_98 : decode cX8_findMost 98 = .ok (.iload 5, 2) := by decide +kernel
theorem dX8_findMost_100 : decode cX8_findMost 100 = .ok (.ishl, 1) := by decide +kernel
theorem dX8_findMost_101 : decode cX8_findMost 101 = .ok (.ior, 1) := by decide +kernel
theorem dX8_findMost_102 : decode cX8_findMost 102 = .ok (.iaload, 1) := by decide +kernel
theorem dX8_findMost_103 : decode cX8_findMost 103 = .ok (.iadd, 1) := by decide +kernel
theorem dX8_findMost_104 : decode cX8_findMost 104 = .ok (.istore 6, 2) := by decide +kernel
theorem dX8_findMost_106 : decode cX8_findMost 106 = .ok (.aload_n 0, 1) := by decide +kernel
theorem dX8_findMost_107 : decode cX8_findMost 107 = .ok (.getfield 31, 3) := by decide +kernel
theorem dX8_findMost_110 : decode cX8_findMost 110 = .ok (.iload_n 3, 1) := by decide +kernel
theorem dX8_findMost_111 : decode cX8_findMost 111 = .ok (.iload 6, 2) := by decide +kernel
theorem dX8_findMost_113 : decode cX8_findMost 113 = .ok (.aload_n 0, 1) := by decide +kernel
theorem dX8_findMost_114 : decode cX8_findMost 114 = .ok (.getfield 31, 3) := by decide +kernel
theorem dX8_findMost_117 : decode cX8_findMost 117 = .ok (.iload_n 3, 1) := by decide +kernel
theorem dX8_findMost_118 : decode cX8_findMost 118 = .ok (.iaload, 1) := by decide +kernel
theorem dX8_findMost_119 : decode cX8_findMost 119 = .ok (.if_icmp .le 8, 3) := by decide +kernel
theorem dX8_findMost_122 : decode cX8_findMost 122 = .ok (.iload 6, 2) := by decide +kernel
theorem dX8_findMost_124 : decode cX8_findMost 124 = .ok (.goto 9, 3) := by decide +kernel
theorem dX8_findMost_127 : decode cX8_findMost 127 = .ok (.aload_n 0, 1) := by decide +kernel
theorem dX8_findMost_128 : decode cX8_findMost 128 = .ok (.getfield 31, 3) := by decide +kernel
theorem dX8_findMost_131 : decode cX8_findMost 131 = .ok (.iload_n 3, 1) := by decide +kernel
theorem dX8_findMost_132 : decode cX8_findMost 132 = .ok (.iaload, 1) := by decide +kernel
theorem dX8_findMost_133 : decode cX8_findMost 133 = .ok (.iastore, 1) := by decide +kernel
theorem dX8_findMost_134 : decode cX8_findMost 134 = .ok (.iinc 5 1, 3) := by decide +kernel
theorem dX8_findMost_137 : decode cX8_findMost 137 = .ok (.goto (-93), 3) := by decide +kernel
theorem dX8_findMost_140 : decode cX8_findMost 140 = .ok (.iinc 3 (-1), 3) := by decide +kernel
theorem dX8_findMost_143 : decode cX8_findMost 143 = .ok (.goto (-119), 3) := by decide +kernel
theorem dX8_findMost_146 : decode cX8_findMost 146 = .ok (.return_, 1) := by decide +kernel
theorem dX8_most_0 : decode cX8_most 0 = .ok (.aload_n 0, 1) := by decide +kernel
theorem dX8_most_1 : decode cX8_most 1 = .ok (.invokevirtual 166, 3) := by decide +kernel
theorem dX8_most_4 : decode cX8_most 4 = .ok (.aload_n 0, 1) := by decide +kernel
theorem dX8_most_5 : decode cX8_most 5 = .ok (.getfield 31, 3) := by decide +kernel
theorem dX8_most_8 : decode cX8_most 8 = .ok (.iconst 0, 1) := by decide +kernel
theorem dX8_most_9 : decode cX8_most 9 = .ok (.iaload, 1) := by decide +kernel
theorem dX8_most_10 : decode cX8_most 10 = .ok (.ireturn, 1) := by decide +kernel
theorem dX8_slip_0 : decode cX8_slip 0 = .ok (.aload_n 0, 1) := by decide +kernel
theorem dX8_slip_1 : decode cX8_slip 1 = .ok (.iload_n 1, 1) := by decide +kernel
theorem dX8_slip_2 : decode cX8_slip 2 = .ok (.invokevirtual 91, 3) := by decide +kernel
theorem dX8_slip_5 : decode cX8_slip 5 = .ok (.ifCond .ne 10, 3) := by decide +kernel
theorem dX8_slip_8 : decode cX8_slip 8 = .ok (.aload_n 0, 1) := by decide +kernel
theorem dX8_slip_9 : decode cX8_slip 9 = .ok (.ldc 56, 2) := by decide +kernel
theorem dX8_slip_11 : decode cX8_slip 11 = .ok (.invokevirtual 83, 3) := by decide +kernel
theorem dX8_slip_14 : decode cX8_slip 14 = .ok (.ireturn, 1) := by decide +kernel
theorem dX8_slip_15 : decode cX8_slip 15 = .ok (.aload_n 0, 1) := by decide +kernel
theorem dX8_slip_16 : decode cX8_slip 16 = .ok (.invokevirtual 166, 3) := by decide +kernel
theorem dX8_slip_19 : decode cX8_slip 19 = .ok (.iconst 0, 1) := by decide +kernel
theorem dX8_slip_20 : decode cX8_slip 20 = .ok (.istore_n 2, 1) := by decide +kernel
theorem dX8_slip_21 : decode cX8_slip 21 = .ok (.iconst 0, 1) := by decide +kernel
theorem dX8_slip_22 : decode cX8_slip 22 = .ok (.istore_n 3, 1) := by decide +kernel
theorem dX8_slip_23 : decode cX8_slip 23 = .ok (.iconst 0, 1) := by decide +kernel
theorem dX8_slip_24 : decode cX8_slip 24 = .ok (.istore 4, 2) := by decide +kernel
theorem dX8_slip_26 : decode cX8_slip 26 = .ok (.iload 4, 2) := by decide +kernel
theorem dX8_slip_28 : decode cX8_slip 28 = .ok (.iload_n 1, 1) := by decide +kernel
theorem dX8_slip_29 : decode cX8_slip 29 = .ok (.if_icmp .gt 82, 3) := by decide +kernel
theorem dX8_slip_32 : decode cX8_slip 32 = .ok (.iconst 0, 1) := by decide +kernel
theorem dX8_slip_33 : decode cX8_slip 33 = .ok (.istore_n 3, 1) := by decide +kernel
theorem dX8_slip_34 : decode cX8_slip 34 = .ok (.iload_n 2, 1) := by decide +kernel
theorem dX8_slip_35 : decode cX8_slip 35 = .ok (.iload_n 3, 1) := by decide +kernel
theorem dX8_slip_36 : decode cX8_slip 36 = .ok (.ishr, 1) := by decide +kernel
theorem dX8_slip_37 : decode cX8_slip 37 = .ok (.iconst 1, 1) := by decide +kernel
theorem dX8_slip_38 : decode cX8_slip 38 = .ok (.iand, 1) := by decide +kernel
theorem dX8_slip_39 : decode cX8_slip 39 = .ok (.iconst 1, 1) := by decide +kernel
theorem dX8_slip_40 : decode cX8_slip 40 = .ok (.if_icmp .eq 53, 3) := by decide +kernel
theorem dX8_slip_43 : decode cX8_slip 43 = .ok (.aload_n 0, 1) := by decide +kernel
theorem dX8_slip_44 : decode cX8_slip 44 = .ok (.iload 4, 2) := by decide +kernel
theorem dX8_slip_46 : decode cX8_slip 46 = .ok (.iload_n 3, 1) := by decide +kernel
theorem dX8_slip_47 : decode cX8_slip 47 = .ok (.invokevirtual 102, 3) := by decide +kernel
theorem dX8_slip_50 : decode cX8_slip 50 = .ok (.ifCond .eq 43, 3) := by decide +kernel
theorem dX8_slip_53 : decode cX8_slip 53 = .ok (.aload_n 0, 1) := by decide +kernel
theorem dX8_slip_54 : decode cX8_slip 54 = .ok (.getfield 31, 3) := by decide +kernel
theorem dX8_slip_57 : decode cX8_slip 57 = .ok (.iload_n 2, 1) := by decide +kernel
theorem dX8_slip_58 : decode cX8_slip 58 = .ok (.iconst 1, 1) := by decide +kernel
theorem dX8_slip_59 : decode cX8_slip 59 = .ok (.iload_n 3, 1) := by decide +kernel
theorem dX8_slip_60 : decode cX8_slip 60 = .ok (.ishl, 1) := by decide +kernel
theorem dX8_slip_61 : decode cX8_slip 61 = .ok (.ior, 1) := by decide +kernel
theorem dX8_slip_62 : decode cX8_slip 62 = .ok (.iaload, 1) := by decide +kernel
theorem dX8_slip_63 : decode cX8_slip 63 = .ok (.ifCond .lt 30, 3) := by decide +kernel
theorem dX8_slip_66 : decode cX8_slip 66 = .ok (.aload_n 0, 1) := by decide +kernel
theorem dX8_slip_67 : decode cX8_slip 67 = .ok (.iload 4, 2) := by decide +kernel
theorem dX8_slip_69 : decode cX8_slip 69 = .ok (.iload_n 3, 1) := by decide +kernel
theorem dX8_slip_70 : decode cX8_slip 70 = .ok (.invokevirtual 69, 3) := by decide +kernel
theorem dX8_slip_73 : decode cX8_slip 73 = .ok (.aload_n 0, 1) := by decide +kernel
theorem dX8_slip_74 : decode cX8_slip 74 = .ok (.getfield 31, 3) := by decide +kernel
theorem dX8_slip_77 : decode cX8_slip 77 = .ok (.iload_n 2, 1) := by decide +kernel
theorem dX8_slip_78 : decode cX8_slip 78 = .ok (.iconst 1, 1) := by decide +kernel
theorem dX8_slip_79 : decode cX8_slip 79 = .ok (.iload_n 3, 1) := by decide +kernel
theorem dX8_slip_80 : decode cX8_slip 80 = .ok (.ishl, 1) := by decide +kernel
theorem dX8_slip_81 : decode cX8_slip 81 = .ok (.ior, 1) := by decide +kernel
theorem dX8_slip_82 : decode cX8_slip 82 = .ok (.iaload, 1) := by decide +kernel
theorem dX8_slip_83 : decode cX8_slip 83 = .ok (.iadd, 1) := by decide +kernel
theorem dX8_slip_84 : decode cX8_slip 84 = .ok (.aload_n 0, 1) := by decide +kernel
theorem dX8_slip_85 : decode cX8_slip 85 = .ok (.getfield 31, 3) := by decide +kernel
theorem dX8_slip_88 : decode cX8_slip 88 = .ok (.iload_n 2, 1) := by decide +kernel
theorem dX8_slip_89 : decode cX8_slip 89 = .ok (.iaload, 1) := by decide +kernel
theorem dX8_slip_90 : decode cX8_slip 90 = .ok (.if_icmp .eq 9, 3) := by decide +kernel
theorem dX8_slip_93 : decode cX8_slip 93 = .ok (.iinc 3 1, 3) := by decide +kernel
theorem dX8_slip_96 : decode cX8_slip 96 = .ok (.goto (-62), 3) := by decide +kernel
theorem dX8_slip_99 : decode cX8_slip 99 = .ok (.iload_n 2, 1) := by decide +kernel
theorem dX8_slip_100 : decode cX8_slip 100 = .ok (.iconst 1, 1) := by decide +kernel
theorem dX8_slip_101 : decode cX8_slip 101 = .ok (.iload_n 3, 1) := by decide +kernel
theorem dX8_slip_102 : decode cX8_slip 102 = .ok (.ishl, 1) := by decide +kernel
theorem dX8_slip_103 : decode cX8_slip 103 = .ok (.ior, 1) := by decide +kernel
theorem dX8_slip_104 : decode cX8_slip 104 = .ok (.istore_n 2, 1) := by decide +kernel
theorem dX8_slip_105 : decode cX8_slip 105 = .ok (.iinc 4 1, 3) := by decide +kernel
theorem dX8_slip_108 : decode cX8_slip 108 = .ok (.goto (-82), 3) := by decide +kernel
theorem dX8_slip_111 : decode cX8_slip 111 = .ok (.iload_n 3, 1) := by decide +kernel
theorem dX8_slip_112 : decode cX8_slip 112 = .ok (.ireturn, 1) := by decide +kernel
theorem dX8_better_0 : decode cX8_better 0 = .ok (.aload_n 0, 1) := by decide +kernel
theorem dX8_better_1 : decode cX8_better 1 = .ok (.invokevirtual 148, 3) := by decide +kernel
theorem dX8_better_4 : decode cX8_better 4 = .ok (.istore_n 1, 1) := by decide +kernel
theorem dX8_better_5 : decode cX8_better 5 = .ok (.iconst (-1), 1) := by decide +kernel
theorem dX8_better_6 : decode cX8_better 6 = .ok (.istore_n 2, 1) := by decide +kernel
theorem dX8_better_7 : decode cX8_better 7 = .ok (.iconst 0, 1) := by decide +kernel
theorem dX8_better_8 : decode cX8_better 8 = .ok (.istore_n 3, 1) := by decide +kernel
theorem dX8_better_9 : decode cX8_better 9 = .ok (.iload_n 3, 1) := by decide +kernel
theorem dX8_better_10 : decode cX8_better 10 = .ok (.aload_n 0, 1) := by decide +kernel
theorem dX8_better_11 : decode cX8_better 11 = .ok (.getfield 7, 3) := by decide +kernel
theorem dX8_better_14 : decode cX8_better 14 = .ok (.iconst 2, 1) := by decide +kernel
theorem dX8_better_15 : decode cX8_better 15 = .ok (.iaload, 1) := by decide +kernel
theorem dX8_better_16 : decode cX8_better 16 = .ok (.if_icmp .ge 92, 3) := by decide +kernel
theorem dX8_better_19 : decode cX8_better 19 = .ok (.iload_n 3, 1) := by decide +kernel
theorem dX8_better_20 : decode cX8_better 20 = .ok (.iconst 1, 1) := by decide +kernel
theorem dX8_better_21 : decode cX8_better 21 = .ok (.iadd, 1) := by decide +kernel
theorem dX8_better_22 : decode cX8_better 22 = .ok (.istore 4, 2) := by decide +kernel
theorem dX8_better_24 : decode cX8_better 24 = .ok (.iload 4, 2) := by decide +kernel
theorem dX8_better_26 : decode cX8_better 26 = .ok (.aload_n 0, 1) := by decide +kernel
theorem dX8_better_27 : decode cX8_better 27 = .ok (.getfield 7, 3) := by decide +kernel
theorem dX8_better_30 : decode cX8_better 30 = .ok (.iconst 2, 1) := by decide +kernel
theorem dX8_better_31 : decode cX8_better 31 = .ok (.iaload, 1) := by decide +kernel
theorem dX8_better_32 : decode cX8_better 32 = .ok (.if_icmp .ge 70, 3) := by decide +kernel
theorem dX8_better_35 : decode cX8_better 35 = .ok (.aload_n 0, 1) := by decide +kernel
theorem dX8_better_36 : decode cX8_better 36 = .ok (.iload_n 3, 1) := by decide +kernel
theorem dX8_better_37 : decode cX8_better 37 = .ok (.iload 4, 2) := by decide +kernel
theorem dX8_better_39 : decode cX8_better 39 = .ok (.invokevirtual 102, 3) := by decide +kernel
theorem dX8_better_42 : decode cX8_better 42 = .ok (.ifCond .eq 54, 3) := by decide +kernel
theorem dX8_better_45 : decode cX8_better 45 = .ok (.aload_n 0, 1) := by decide +kernel
theorem dX8_better_46 : decode cX8_better 46 = .ok (.iload_n 3, 1) := by decide +kernel
theorem dX8_better_47 : decode cX8_better 47 = .ok (.iload 4, 2) := by decide +kernel
theorem dX8_better_49 : decode cX8_better 49 = .ok (.invokevirtual 107, 3) := by decide +kernel
theorem dX8_better_52 : decode cX8_better 52 = .ok (.aload_n 0, 1) := by decide +kernel
theorem dX8_better_53 : decode cX8_better 53 = .ok (.invokevirtual 148, 3) := by decide +kernel
theorem dX8_better_56 : decode cX8_better 56 = .ok (.istore 5, 2) := by decide +kernel
theorem dX8_better_58 : decode cX8_better 58 = .ok (.aload_n 0, 1) := by decide +kernel
theorem dX8_better_59 : decode cX8_better 59 = .ok (.iload_n 3, 1) := by decide +kernel
theorem dX8_better_60 : decode cX8_better 60 = .ok (.iload 4, 2) := by decide +kernel
theorem dX8_better_62 : decode cX8_better 62 = .ok (.invokevirtual 107, 3) := by decide +kernel
theorem dX8_better_65 : decode cX8_better 65 = .ok (.iload 5, 2) := by decide +kernel
theorem dX8_better_67 : decode cX8_better 67 = .ok (.iload_n 1, 1) := by decide +kernel
theorem dX8_better_68 : decode cX8_better 68 = .ok (.if_icmp .le 13, 3) := by decide +kernel
theorem dX8_better_71 : decode cX8_better 71 = .ok (.bipush 10, 2) := by decide +kernel
theorem dX8_better_73 : decode cX8_better 73 = .ok (.iload_n 3, 1) := by decide +kernel
theorem dX8_better_74 : decode cX8_better 74 = .ok (.imul, 1) := by decide +kernel
theorem dX8_better_75 : decode cX8_better 75 = .ok (.iload 4, 2) := by decide +kernel
theorem dX8_better_77 : decode cX8_better 77 = .ok (.iadd, 1) := by decide +kernel
theorem dX8_better_78 : decode cX8_better 78 = .ok (.goto 4, 3) := by decide +kernel
theorem dX8_better_81 : decode cX8_better 81 = .ok (.iload_n 2, 1) := by decide +kernel
theorem dX8_better_82 : decode cX8_better 82 = .ok (.istore_n 2, 1) := by decide +kernel
theorem dX8_better_83 : decode cX8_better 83 = .ok (.iload 5, 2) := by decide +kernel
theorem dX8_better_85 : decode cX8_better 85 = .ok (.iload_n 1, 1) := by decide +kernel
theorem dX8_better_86 : decode cX8_better 86 = .ok (.if_icmp .le 8, 3) := by decide +kernel
theorem dX8_better_89 : decode cX8_better 89 = .ok (.iload 5, 2) := by decide +kernel
theorem dX8_better_91 : decode cX8_better 91 = .ok (.goto 4, 3) := by decide +kernel
theorem dX8_better_94 : decode cX8_better 94 = .ok (.iload_n 1, 1) := by decide +kernel
theorem dX8_better_95 : decode cX8_better 95 = .ok (.istore_n 1, 1) := by decide +kernel
theorem dX8_better_96 : decode cX8_better 96 = .ok (.iinc 4 1, 3) := by decide +kernel
theorem dX8_better_99 : decode cX8_better 99 = .ok (.goto (-75), 3) := by decide +kernel
theorem dX8_better_102 : decode cX8_better 102 = .ok (.iinc 3 1, 3) := by decide +kernel
theorem dX8_better_105 : decode cX8_better 105 = .ok (.goto (-96), 3) := by decide +kernel
theorem dX8_better_108 : decode cX8_better 108 = .ok (.iload_n 2, 1) := by decide +kernel
theorem dX8_better_109 : decode cX8_better 109 = .ok (.ifCond .ge 12, 3) := by decide +kernel
theorem dX8_better_112 : decode cX8_better 112 = .ok (.aload_n 0, 1) := by decide +kernel
theorem dX8_better_113 : decode cX8_better 113 = .ok (.ldc 165, 2) := by decide +kernel
theorem dX8_better_115 : decode cX8_better 115 = .ok (.invokevirtual 83, 3) := by decide +kernel
theorem dX8_better_118 : decode cX8_better 118 = .ok (.goto 4, 3) := by decide +kernel
theorem dX8_better_121 : decode cX8_better 121 = .ok (.iload_n 2, 1) := by decide +kernel
theorem dX8_better_122 : decode cX8_better 122 = .ok (.ireturn, 1) := by decide +kernel
theorem dX8_bestAs_0 : decode cX8_bestAs 0 = .ok (.aload_n 0, 1) := by decide +kernel
theorem dX8_bestAs_1 : decode cX8_bestAs 1 = .ok (.iload_n 1, 1) := by decide +kernel
theorem dX8_bestAs_2 : decode cX8_bestAs 2 = .ok (.invokevirtual 91, 3) := by decide +kernel
theorem dX8_bestAs_5 : decode cX8_bestAs 5 = .ok (.ifCond .ne 10, 3) := by decide +kernel
theorem dX8_bestAs_8 : decode cX8_bestAs 8 = .ok (.aload_n 0, 1) := by decide +kernel
theorem dX8_bestAs_9 : decode cX8_bestAs 9 = .ok (.ldc 56, 2) := by decide +kernel
theorem dX8_bestAs_11 : decode cX8_bestAs 11 = .ok (.invokevirtual 83, 3) := by decide +kernel
theorem dX8_bestAs_14 : decode cX8_bestAs 14 = .ok (.ireturn, 1) := by decide +kernel
theorem dX8_bestAs_15 : decode cX8_bestAs 15 = .ok (.iconst (-1), 1) := by decide +kernel
theorem dX8_bestAs_16 : decode cX8_bestAs 16 = .ok (.istore_n 2, 1) := by decide +kernel
theorem dX8_bestAs_17 : decode cX8_bestAs 17 = .ok (.iconst (-1), 1) := by decide +kernel
theorem dX8_bestAs_18 : decode cX8_bestAs 18 = .ok (.istore_n 3, 1) := by decide +kernel
theorem dX8_bestAs_19 : decode cX8_bestAs 19 = .ok (.iconst 0, 1) := by decide +kernel
theorem dX8_bestAs_20 : decode cX8_bestAs 20 = .ok (.istore 4, 2) := by decide +kernel
theorem dX8_bestAs_22 : decode cX8_bestAs 22 = .ok (.iload 4, 2) := by decide +kernel
theorem dX8_bestAs_24 : decode cX8_bestAs 24 = .ok (.aload_n 0, 1) := by decide +kernel
theorem dX8_bestAs_25 : decode cX8_bestAs 25 = .ok (.getfield 7, 3) := by decide +kernel
theorem dX8_bestAs_28 : decode cX8_bestAs 28 = .ok (.iconst 2, 1) := by decide +kernel
theorem dX8_bestAs_29 : decode cX8_bestAs 29 = .ok (.iaload, 1) := by decide +kernel
theorem dX8_bestAs_30 : decode cX8_bestAs 30 = .ok (.if_icmp .ge 60, 3) := by decide +kernel
theorem dX8_bestAs_33 : decode cX8_bestAs 33 = .ok (.iload 4, 2) := by decide +kernel
theorem dX8_bestAs_35 : decode cX8_bestAs 35 = .ok (.iload_n 1, 1) := by decide +kernel
theorem dX8_bestAs_36 : decode cX8_bestAs 36 = .ok (.if_icmp .eq 48, 3) := by decide +kernel
theorem dX8_bestAs_39 : decode cX8_bestAs 39 = .ok (.aload_n 0, 1) := by decide +kernel
theorem dX8_bestAs_40 : decode cX8_bestAs 40 = .ok (.iload_n 1, 1) := by decide +kernel
theorem dX8_bestAs_41 : decode cX8_bestAs 41 = .ok (.iload 4, 2) := by decide +kernel
theorem dX8_bestAs_43 : decode cX8_bestAs 43 = .ok (.invokevirtual 102, 3) := by decide +kernel
theorem dX8_bestAs_46 : decode cX8_bestAs 46 = .ok (.ifCond .eq 38, 3) := by decide +kernel
theorem dX8_bestAs_49 : decode cX8_bestAs 49 = .ok (.aload_n 0, 1) := by decide +kernel
theorem dX8_bestAs_50 : decode cX8_bestAs 50 = .ok (.iload 4, 2) := by decide +kernel
theorem dX8_bestAs_52 : decode cX8_bestAs 52 = .ok (.iload_n 1, 1) := by decide +kernel
theorem dX8_bestAs_53 : decode cX8_bestAs 53 = .ok (.invokevirtual 69, 3) := by decide +kernel
theorem dX8_bestAs_56 : decode cX8_bestAs 56 = .ok (.istore 5, 2) := by decide +kernel
theorem dX8_bestAs_58 : decode cX8_bestAs 58 = .ok (.iload 5, 2) := by decide +kernel
theorem dX8_bestAs_60 : decode cX8_bestAs 60 = .ok (.iload_n 3, 1) := by decide +kernel
theorem dX8_bestAs_61 : decode cX8_bestAs 61 = .ok (.if_icmp .le 8, 3) := by decide +kernel
theorem dX8_bestAs_64 : decode cX8_bestAs 64 = .ok (.iload 4, 2) := by decide +kernel
theorem dX8_bestAs_66 : decode cX8_bestAs 66 = .ok (.goto 4, 3) := by decide +kernel
theorem dX8_bestAs_69 : decode cX8_bestAs 69 = .ok (.iload_n 2, 1) := by decide +kernel
theorem dX8_bestAs_70 : decode cX8_bestAs 70 = .ok (.istore_n 2, 1) := by decide +kernel
theorem dX8_bestAs_71 : decode cX8_bestAs 71 = .ok (.iload 5, 2) := by decide +kernel
theorem dX8_bestAs_73 : decode cX8_bestAs 73 = .ok (.iload_n 3, 1) := by decide +kernel
theorem dX8_bestAs_74 : decode cX8_bestAs 74 = .ok (.if_icmp .le 8, 3) := by decide +kernel
theorem dX8_bestAs_77 : decode cX8_bestAs 77 = .ok (.iload 5, 2) := by decide +kernel
theorem dX8_bestAs_79 : decode cX8_bestAs 79 = .ok (.goto 4, 3) := by decide +kernel
theorem dX8_bestAs_82 : decode cX8_bestAs 82 = .ok (.iload_n 3, 1) := by decide +kernel
theorem dX8_bestAs_83 : decode cX8_bestAs 83 = .ok (.istore_n 3, 1) := by decide +kernel
theorem dX8_bestAs_84 : decode cX8_bestAs 84 = .ok (.iinc 4 1, 3) := by decide +kernel
theorem dX8_bestAs_87 : decode cX8_bestAs 87 = .ok (.goto (-65), 3) := by decide +kernel
theorem dX8_bestAs_90 : decode cX8_bestAs 90 = .ok (.iload_n 2, 1) := by decide +kernel
theorem dX8_bestAs_91 : decode cX8_bestAs 91 = .ok (.ifCond .ge 12, 3) := by decide +kernel
theorem dX8_bestAs_94 : decode cX8_bestAs 94 = .ok (.aload_n 0, 1) := by decide +kernel
theorem dX8_bestAs_95 : decode cX8_bestAs 95 = .ok (.ldc 165, 2) := by decide +kernel
theorem dX8_bestAs_97 : decode cX8_bestAs 97 = .ok (.invokevirtual 83, 3) := by decide +kernel
theorem dX8_bestAs_100 : decode cX8_bestAs 100 = .ok (.goto 4, 3) := by decide +kernel
theorem dX8_bestAs_103 : decode cX8_bestAs 103 = .ok (.iload_n 2, 1) := by decide +kernel
theorem dX8_bestAs_104 : decode cX8_bestAs 104 = .ok (.ireturn, 1) := by decide +kernel
theorem dX8_kind_0 : decode cX8_kind 0 = .ok (.aload_n 0, 1) := by decide +kernel
theorem dX8_kind_1 : decode cX8_kind 1 = .ok (.iload_n 1, 1) := by decide +kernel
theorem dX8_kind_2 : decode cX8_kind 2 = .ok (.invokevirtual 91, 3) := by decide +kernel
theorem dX8_kind_5 : decode cX8_kind 5 = .ok (.ifCond .ne 10, 3) := by decide +kernel
theorem dX8_kind_8 : decode cX8_kind 8 = .ok (.aload_n 0, 1) := by decide +kernel
theorem dX8_kind_9 : decode cX8_kind 9 = .ok (.ldc 56, 2) := by decide +kernel
theorem dX8_kind_11 : decode cX8_kind 11 = .ok (.invokevirtual 83, 3) := by decide +kernel
theorem dX8_kind_14 : decode cX8_kind 14 = .ok (.ireturn, 1) := by decide +kernel
theorem dX8_kind_15 : decode cX8_kind 15 = .ok (.aload_n 0, 1) := by decide +kernel
theorem dX8_kind_16 : decode cX8_kind 16 = .ok (.iload_n 1, 1) := by decide +kernel
theorem dX8_kind_17 : decode cX8_kind 17 = .ok (.iconst 0, 1) := by decide +kernel
theorem dX8_kind_18 : decode cX8_kind 18 = .ok (.invokevirtual 61, 3) := by decide +kernel
theorem dX8_kind_21 : decode cX8_kind 21 = .ok (.istore_n 2, 1) := by decide +kernel
theorem dX8_kind_22 : decode cX8_kind 22 = .ok (.iconst 0, 1) := by decide +kernel
theorem dX8_kind_23 : decode cX8_kind 23 = .ok (.istore_n 3, 1) := by decide +kernel
theorem dX8_kind_24 : decode cX8_kind 24 = .ok (.iconst (-1), 1) := by decide +kernel
theorem dX8_kind_25 : decode cX8_kind 25 = .ok (.istore 4, 2) := by decide +kernel
theorem dX8_kind_27 : decode cX8_kind 27 = .ok (.iconst 0, 1) := by decide +kernel
theorem dX8_kind_28 : decode cX8_kind 28 = .ok (.istore 5, 2) := by decide +kernel
theorem dX8_kind_30 : decode cX8_kind 30 = .ok (.iload 5, 2) := by decide +kernel
theorem dX8_kind_32 : decode cX8_kind 32 = .ok (.iconst 5, 1) := by decide +kernel
theorem dX8_kind_33 : decode cX8_kind 33 = .ok (.if_icmp .gt 54, 3) := by decide +kernel
theorem dX8_kind_36 : decode cX8_kind 36 = .ok (.aload_n 0, 1) := by decide +kernel
theorem dX8_kind_37 : decode cX8_kind 37 = .ok (.iload_n 1, 1) := by decide +kernel
theorem dX8_kind_38 : decode cX8_kind 38 = .ok (.iconst 0, 1) := by decide +kernel
theorem dX8_kind_39 : decode cX8_kind 39 = .ok (.iload 5, 2) := by decide +kernel
theorem dX8_kind_41 : decode cX8_kind 41 = .ok (.invokevirtual 76, 3) := by decide +kernel
theorem dX8_kind_44 : decode cX8_kind 44 = .ok (.aload_n 0, 1) := by decide +kernel
theorem dX8_kind_45 : decode cX8_kind 45 = .ok (.iload_n 1, 1) := by decide +kernel
theorem dX8_kind_46 : decode cX8_kind 46 = .ok (.invokevirtual 72, 3) := by decide +kernel
theorem dX8_kind_49 : decode cX8_kind 49 = .ok (.istore 6, 2) := by decide +kernel
theorem dX8_kind_51 : decode cX8_kind 51 = .ok (.iload 6, 2) := by decide +kernel
theorem dX8_kind_53 : decode cX8_kind 53 = .ok (.iload 4, 2) := by decide +kernel
theorem dX8_kind_55 : decode cX8_kind 55 = .ok (.if_icmp .le 8, 3) := by decide +kernel
theorem dX8_kind_58 : decode cX8_kind 58 = .ok (.iload 5, 2) := by decide +kernel
theorem dX8_kind_60 : decode cX8_kind 60 = .ok (.goto 4, 3) := by decide +kernel
theorem dX8_kind_63 : decode cX8_kind 63 = .ok (.iload_n 3, 1) := by decide +kernel
theorem dX8_kind_64 : decode cX8_kind 64 = .ok (.istore_n 3, 1) := by decide +kernel
theorem dX8_kind_65 : decode cX8_kind 65 = .ok (.iload 6, 2) := by decide +kernel
theorem dX8_kind_67 : decode cX8_kind 67 = .ok (.iload 4, 2) := by decide +kernel
theorem dX8_kind_69 : decode cX8_kind 69 = .ok (.if_icmp .le 8, 3) := by decide +kernel
theorem dX8_kind_72 : decode cX8_kind 72 = .ok (.iload 6, 2) := by decide +kernel
theorem dX8_kind_74 : decode cX8_kind 74 = .ok (.goto 5, 3) := by decide +kernel
theorem dX8_kind_77 : decode cX8_kind 77 = .ok (.iload 4, 2) := by decide +kernel
theorem dX8_kind_79 : decode cX8_kind 79 = .ok (.istore 4, 2) := by decide +kernel
theorem dX8_kind_81 : decode cX8_kind 81 = .ok (.iinc 5 1, 3) := by decide +kernel
theorem dX8_kind_84 : decode cX8_kind 84 = .ok (.goto (-54), 3) := by decide +kernel
theorem dX8_kind_87 : decode cX8_kind 87 = .ok (.aload_n 0, 1) := by decide +kernel
theorem dX8_kind_88 : decode cX8_kind 88 = .ok (.iload_n 1, 1) := by decide +kernel
theorem dX8_kind_89 : decode cX8_kind 89 = .ok (.iconst 0, 1) := by decide +kernel
theorem dX8_kind_90 : decode cX8_kind 90 = .ok (.iload_n 2, 1) := by decide +kernel
theorem dX8_kind_91 : decode cX8_kind 91 = .ok (.invokevirtual 76, 3) := by decide +kernel
theorem dX8_kind_94 : decode cX8_kind 94 = .ok (.iload_n 3, 1) := by decide +kernel
theorem dX8_kind_95 : decode cX8_kind 95 = .ok (.ireturn, 1) := by decide +kernel
theorem dX8_ways_0 : decode cX8_ways 0 = .ok (.iload_n 1, 1) := by decide +kernel
theorem dX8_ways_1 : decode cX8_ways 1 = .ok (.iload_n 0, 1) := by decide +kernel
theorem dX8_ways_2 : decode cX8_ways 2 = .ok (.if_icmp .le 5, 3) := by decide +kernel
theorem dX8_ways_5 : decode cX8_ways 5 = .ok (.iconst 0, 1) := by decide +kernel
theorem dX8_ways_6 : decode cX8_ways 6 = .ok (.ireturn, 1) := by decide +kernel
theorem dX8_ways_7 : decode cX8_ways 7 = .ok (.iconst 1, 1) := by decide +kernel
theorem dX8_ways_8 : decode cX8_ways 8 = .ok (.istore_n 2, 1) := by decide +kernel
theorem dX8_ways_9 : decode cX8_ways 9 = .ok (.iconst 0, 1) := by decide +kernel
theorem dX8_ways_10 : decode cX8_ways 10 = .ok (.istore_n 3, 1) := by decide +kernel
theorem dX8_ways_11 : decode cX8_ways 11 = .ok (.iload_n 3, 1) := by decide +kernel
theorem dX8_ways_12 : decode cX8_ways 12 = .ok (.iload_n 1, 1) := by decide +kernel
theorem dX8_ways_13 : decode cX8_ways 13 = .ok (.if_icmp .ge 19, 3) := by decide +kernel
theorem dX8_ways_16 : decode cX8_ways 16 = .ok (.iload_n 2, 1) := by decide +kernel
theorem dX8_ways_17 : decode cX8_ways 17 = .ok (.iload_n 0, 1) := by decide +kernel
theorem dX8_ways_18 : decode cX8_ways 18 = .ok (.iload_n 3, 1) := by decide +kernel
theorem dX8_ways_19 : decode cX8_ways 19 = .ok (.isub, 1) := by decide +kernel
theorem dX8_ways_20 : decode cX8_ways 20 = .ok (.imul, 1) := by decide +kernel
theorem dX8_ways_21 : decode cX8_ways 21 = .ok (.iload_n 3, 1) := by decide +kernel
theorem dX8_ways_22 : decode cX8_ways 22 = .ok (.iconst 1, 1) := by decide +kernel
theorem dX8_ways_23 : decode cX8_ways 23 = .ok (.iadd, 1) := by decide +kernel
theorem dX8_ways_24 : decode cX8_ways 24 = .ok (.idiv, 1) := by decide +kernel
theorem dX8_ways_25 : decode cX8_ways 25 = .ok (.istore_n 2, 1) := by decide +kernel
theorem dX8_ways_26 : decode cX8_ways 26 = .ok (.iinc 3 1, 3) := by decide +kernel
theorem dX8_ways_29 : decode cX8_ways 29 = .ok (.goto (-18), 3) := by decide +kernel
theorem dX8_ways_32 : decode cX8_ways 32 = .ok (.iconst 1, 1) := by decide +kernel
theorem dX8_ways_33 : decode cX8_ways 33 = .ok (.istore_n 3, 1) := by decide +kernel
theorem dX8_ways_34 : decode cX8_ways 34 = .ok (.iconst 1, 1) := by decide +kernel
theorem dX8_ways_35 : decode cX8_ways 35 = .ok (.istore 4, 2) := by decide +kernel
theorem dX8_ways_37 : decode cX8_ways 37 = .ok (.iload 4, 2) := by decide +kernel
theorem dX8_ways_39 : decode cX8_ways 39 = .ok (.iload_n 0, 1) := by decide +kernel
theorem dX8_ways_40 : decode cX8_ways 40 = .ok (.iload_n 1, 1) := by decide +kernel
theorem dX8_ways_41 : decode cX8_ways 41 = .ok (.isub, 1) := by decide +kernel
theorem dX8_ways_42 : decode cX8_ways 42 = .ok (.if_icmp .gt 27, 3) := by decide +kernel
theorem dX8_ways_45 : decode cX8_ways 45 = .ok (.iload_n 3, 1) := by decide +kernel
theorem dX8_ways_46 : decode cX8_ways 46 = .ok (.iload 4, 2) := by decide +kernel
theorem dX8_ways_48 : decode cX8_ways 48 = .ok (.imul, 1) := by decide +kernel
theorem dX8_ways_49 : decode cX8_ways 49 = .ok (.iload 4, 2) := by decide +kernel
theorem dX8_ways_51 : decode cX8_ways 51 = .ok (.iconst 2, 1) := by decide +kernel
theorem dX8_ways_52 : decode cX8_ways 52 = .ok (.irem, 1) := by decide +kernel
theorem dX8_ways_53 : decode cX8_ways 53 = .ok (.ifCond .ne 7, 3) := by decide +kernel
theorem dX8_ways_56 : decode cX8_ways 56 = .ok (.iconst 1, 1) := by decide +kernel
theorem dX8_ways_57 : decode cX8_ways 57 = .ok (.goto 4, 3) := by decide +kernel
theorem dX8_ways_60 : decode cX8_ways 60 = .ok (.iconst (-1), 1) := by decide +kernel
theorem dX8_ways_61 : decode cX8_ways 61 = .ok (.iadd, 1) := by decide +kernel
theorem dX8_ways_62 : decode cX8_ways 62 = .ok (.istore_n 3, 1) := by decide +kernel
theorem dX8_ways_63 : decode cX8_ways 63 = .ok (.iinc 4 1, 3) := by decide +kernel
theorem dX8_ways_66 : decode cX8_ways 66 = .ok (.goto (-29), 3) := by decide +kernel
theorem dX8_ways_69 : decode cX8_ways 69 = .ok (.iload_n 2, 1) := by decide +kernel
theorem dX8_ways_70 : decode cX8_ways 70 = .ok (.iload_n 3, 1) := by decide +kernel
theorem dX8_ways_71 : decode cX8_ways 71 = .ok (.imul, 1) := by decide +kernel
theorem dX8_ways_72 : decode cX8_ways 72 = .ok (.ireturn, 1) := by decide +kernel
theorem dX8_all_0 : decode cX8_all 0 = .ok (.iconst 1, 1) := by decide +kernel
theorem dX8_all_1 : decode cX8_all 1 = .ok (.istore_n 1, 1) := by decide +kernel
theorem dX8_all_2 : decode cX8_all 2 = .ok (.iconst 2, 1) := by decide +kernel
theorem dX8_all_3 : decode cX8_all 3 = .ok (.istore_n 2, 1) := by decide +kernel
theorem dX8_all_4 : decode cX8_all 4 = .ok (.iload_n 2, 1) := by decide +kernel
theorem dX8_all_5 : decode cX8_all 5 = .ok (.iload_n 0, 1) := by decide +kernel
theorem dX8_all_6 : decode cX8_all 6 = .ok (.if_icmp .gt 13, 3) := by decide +kernel
theorem dX8_all_9 : decode cX8_all 9 = .ok (.iload_n 1, 1) := by decide +kernel
theorem dX8_all_10 : decode cX8_all 10 = .ok (.iload_n 2, 1) := by decide +kernel
theorem dX8_all_11 : decode cX8_all 11 = .ok (.imul, 1) := by decide +kernel
theorem dX8_all_12 : decode cX8_all 12 = .ok (.istore_n 1, 1) := by decide +kernel
theorem dX8_all_13 : decode cX8_all 13 = .ok (.iinc 2 1, 3) := by decide +kernel
theorem dX8_all_16 : decode cX8_all 16 = .ok (.goto (-12), 3) := by decide +kernel
theorem dX8_all_19 : decode cX8_all 19 = .ok (.iload_n 1, 1) := by decide +kernel
theorem dX8_all_20 : decode cX8_all 20 = .ok (.ireturn, 1) := by decide +kernel
theorem dX8_divisor_0 : decode cX8_divisor 0 = .ok (.iload_n 0, 1) := by decide +kernel
theorem dX8_divisor_1 : decode cX8_divisor 1 = .ok (.istore_n 2, 1) := by decide +kernel
theorem dX8_divisor_2 : decode cX8_divisor 2 = .ok (.iload_n 1, 1) := by decide +kernel
theorem dX8_divisor_3 : decode cX8_divisor 3 = .ok (.istore_n 3, 1) := by decide +kernel
theorem dX8_divisor_4 : decode cX8_divisor 4 = .ok (.iload_n 3, 1) := by decide +kernel
theorem dX8_divisor_5 : decode cX8_divisor 5 = .ok (.ifCond .eq 16, 3) := by decide +kernel
theorem dX8_divisor_8 : decode cX8_divisor 8 = .ok (.iload_n 2, 1) := by decide +kernel
theorem dX8_divisor_9 : decode cX8_divisor 9 = .ok (.iload_n 3, 1) := by decide +kernel
theorem dX8_divisor_10 : decode cX8_divisor 10 = .ok (.irem, 1) := by decide +kernel
theorem dX8_divisor_11 : decode cX8_divisor 11 = .ok (.istore 4, 2) := by decide +kernel
theorem dX8_divisor_13 : decode cX8_divisor 13 = .ok (.iload_n 3, 1) := by decide +kernel
theorem dX8_divisor_14 : decode cX8_divisor 14 = .ok (.istore_n 2, 1) := by decide +kernel
theorem dX8_divisor_15 : decode cX8_divisor 15 = .ok (.iload 4, 2) := by decide +kernel
theorem dX8_divisor_17 : decode cX8_divisor 17 = .ok (.istore_n 3, 1) := by decide +kernel
theorem dX8_divisor_18 : decode cX8_divisor 18 = .ok (.goto (-14), 3) := by decide +kernel
theorem dX8_divisor_21 : decode cX8_divisor 21 = .ok (.iload_n 2, 1) := by decide +kernel
theorem dX8_divisor_22 : decode cX8_divisor 22 = .ok (.ireturn, 1) := by decide +kernel
theorem dX8_odds_0 : decode cX8_odds 0 = .ok (.iload_n 1, 1) := by decide +kernel
theorem dX8_odds_1 : decode cX8_odds 1 = .ok (.iconst 0, 1) := by decide +kernel
theorem dX8_odds_2 : decode cX8_odds 2 = .ok (.iconst 1, 1) := by decide +kernel
theorem dX8_odds_3 : decode cX8_odds 3 = .ok (.invokestatic 57, 3) := by decide +kernel
theorem dX8_odds_6 : decode cX8_odds 6 = .ok (.ifCond .ne 10, 3) := by decide +kernel
theorem dX8_odds_9 : decode cX8_odds 9 = .ok (.aload_n 0, 1) := by decide +kernel
theorem dX8_odds_10 : decode cX8_odds 10 = .ok (.ldc 56, 2) := by decide +kernel
theorem dX8_odds_12 : decode cX8_odds 12 = .ok (.invokevirtual 83, 3) := by decide +kernel
theorem dX8_odds_15 : decode cX8_odds 15 = .ok (.ireturn, 1) := by decide +kernel
theorem dX8_odds_16 : decode cX8_odds 16 = .ok (.aload_n 0, 1) := by decide +kernel
theorem dX8_odds_17 : decode cX8_odds 17 = .ok (.invokevirtual 145, 3) := by decide +kernel
theorem dX8_odds_20 : decode cX8_odds 20 = .ok (.invokestatic 115, 3) := by decide +kernel
theorem dX8_odds_23 : decode cX8_odds 23 = .ok (.istore_n 2, 1) := by decide +kernel
theorem dX8_odds_24 : decode cX8_odds 24 = .ok (.aload_n 0, 1) := by decide +kernel
theorem dX8_odds_25 : decode cX8_odds 25 = .ok (.getfield 7, 3) := by decide +kernel
theorem dX8_odds_28 : decode cX8_odds 28 = .ok (.iconst 2, 1) := by decide +kernel
theorem dX8_odds_29 : decode cX8_odds 29 = .ok (.iaload, 1) := by decide +kernel
theorem dX8_odds_30 : decode cX8_odds 30 = .ok (.iload_n 2, 1) := by decide +kernel
theorem dX8_odds_31 : decode cX8_odds 31 = .ok (.isub, 1) := by decide +kernel
theorem dX8_odds_32 : decode cX8_odds 32 = .ok (.istore_n 3, 1) := by decide +kernel
theorem dX8_odds_33 : decode cX8_odds 33 = .ok (.iload_n 3, 1) := by decide +kernel
theorem dX8_odds_34 : decode cX8_odds 34 = .ok (.iconst 0, 1) := by decide +kernel
theorem dX8_odds_35 : decode cX8_odds 35 = .ok (.invokestatic 169, 3) := by decide +kernel
theorem dX8_odds_38 : decode cX8_odds 38 = .ok (.iload_n 2, 1) := by decide +kernel
theorem dX8_odds_39 : decode cX8_odds 39 = .ok (.iconst 0, 1) := by decide +kernel
theorem dX8_odds_40 : decode cX8_odds 40 = .ok (.invokestatic 169, 3) := by decide +kernel
theorem dX8_odds_43 : decode cX8_odds 43 = .ok (.imul, 1) := by decide +kernel
theorem dX8_odds_44 : decode cX8_odds 44 = .ok (.istore 4, 2) := by decide +kernel
theorem dX8_odds_46 : decode cX8_odds 46 = .ok (.iload_n 3, 1) := by decide +kernel
theorem dX8_odds_47 : decode cX8_odds 47 = .ok (.invokestatic 172, 3) := by decide +kernel
theorem dX8_odds_50 : decode cX8_odds 50 = .ok (.iload_n 2, 1) := by decide +kernel
theorem dX8_odds_51 : decode cX8_odds 51 = .ok (.invokestatic 172, 3) := by decide +kernel
theorem dX8_odds_54 : decode cX8_odds 54 = .ok (.imul, 1) := by decide +kernel
theorem dX8_odds_55 : decode cX8_odds 55 = .ok (.istore 5, 2) := by decide +kernel
theorem dX8_odds_57 : decode cX8_odds 57 = .ok (.iload 4, 2) := by decide +kernel
theorem dX8_odds_59 : decode cX8_odds 59 = .ok (.iload 5, 2) := by decide +kernel
theorem dX8_odds_61 : decode cX8_odds 61 = .ok (.invokestatic 175, 3) := by decide +kernel
theorem dX8_odds_64 : decode cX8_odds 64 = .ok (.istore 6, 2) := by decide +kernel
theorem dX8_odds_66 : decode cX8_odds 66 = .ok (.iload_n 1, 1) := by decide +kernel
theorem dX8_odds_67 : decode cX8_odds 67 = .ok (.ifCond .ne 11, 3) := by decide +kernel
theorem dX8_odds_70 : decode cX8_odds 70 = .ok (.iload 4, 2) := by decide +kernel
theorem dX8_odds_72 : decode cX8_odds 72 = .ok (.iload 6, 2) := by decide +kernel
theorem dX8_odds_74 : decode cX8_odds 74 = .ok (.idiv, 1) := by decide +kernel
theorem dX8_odds_75 : decode cX8_odds 75 = .ok (.goto 8, 3) := by decide +kernel
theorem dX8_odds_78 : decode cX8_odds 78 = .ok (.iload 5, 2) := by decide +kernel
theorem dX8_odds_80 : decode cX8_odds 80 = .ok (.iload 6, 2) := by decide +kernel
theorem dX8_odds_82 : decode cX8_odds 82 = .ok (.idiv, 1) := by decide +kernel
theorem dX8_odds_83 : decode cX8_odds 83 = .ok (.ireturn, 1) := by decide +kernel
theorem dX8_lots_0 : decode cX8_lots 0 = .ok (.iload_n 1, 1) := by decide +kernel
theorem dX8_lots_1 : decode cX8_lots 1 = .ok (.iconst 0, 1) := by decide +kernel
theorem dX8_lots_2 : decode cX8_lots 2 = .ok (.bipush 8, 2) := by decide +kernel
theorem dX8_lots_4 : decode cX8_lots 4 = .ok (.invokestatic 57, 3) := by decide +kernel
theorem dX8_lots_7 : decode cX8_lots 7 = .ok (.ifCond .ne 10, 3) := by decide +kernel
theorem dX8_lots_10 : decode cX8_lots 10 = .ok (.aload_n 0, 1) := by decide +kernel
theorem dX8_lots_11 : decode cX8_lots 11 = .ok (.ldc 56, 2) := by decide +kernel
theorem dX8_lots_13 : decode cX8_lots 13 = .ok (.invokevirtual 83, 3) := by decide +kernel
theorem dX8_lots_16 : decode cX8_lots 16 = .ok (.ireturn, 1) := by decide +kernel
theorem dX8_lots_17 : decode cX8_lots 17 = .ok (.aload_n 0, 1) := by decide +kernel
theorem dX8_lots_18 : decode cX8_lots 18 = .ok (.invokevirtual 145, 3) := by decide +kernel
theorem dX8_lots_21 : decode cX8_lots 21 = .ok (.invokestatic 115, 3) := by decide +kernel
theorem dX8_lots_24 : decode cX8_lots 24 = .ok (.istore_n 2, 1) := by decide +kernel
theorem dX8_lots_25 : decode cX8_lots 25 = .ok (.iconst 0, 1) := by decide +kernel
theorem dX8_lots_26 : decode cX8_lots 26 = .ok (.istore_n 3, 1) := by decide +kernel
theorem dX8_lots_27 : decode cX8_lots 27 = .ok (.iconst 0, 1) := by decide +kernel
theorem dX8_lots_28 : decode cX8_lots 28 = .ok (.istore 4, 2) := by decide +kernel
theorem dX8_lots_30 : decode cX8_lots 30 = .ok (.iload 4, 2) := by decide +kernel
theorem dX8_lots_32 : decode cX8_lots 32 = .ok (.iload_n 1, 1) := by decide +kernel
theorem dX8_lots_33 : decode cX8_lots 33 = .ok (.if_icmp .gt 34, 3) := by decide +kernel
theorem dX8_lots_36 : decode cX8_lots 36 = .ok (.iload_n 3, 1) := by decide +kernel
theorem dX8_lots_37 : decode cX8_lots 37 = .ok (.iload_n 2, 1) := by decide +kernel
theorem dX8_lots_38 : decode cX8_lots 38 = .ok (.iload 4, 2) := by decide +kernel
theorem dX8_lots_40 : decode cX8_lots 40 = .ok (.invokestatic 169, 3) := by decide +kernel
theorem dX8_lots_43 : decode cX8_lots 43 = .ok (.aload_n 0, 1) := by decide +kernel
theorem dX8_lots_44 : decode cX8_lots 44 = .ok (.getfield 7, 3) := by decide +kernel
theorem dX8_lots_47 : decode cX8_lots 47 = .ok (.iconst 2, 1) := by decide +kernel
theorem dX8_lots_48 : decode cX8_lots 48 = .ok (.iaload, 1) := by decide +kernel
theorem dX8_lots_49 : decode cX8_lots 49 = .ok (.iload_n 2, 1) := by decide +kernel
theorem dX8_lots_50 : decode cX8_lots 50 = .ok (.isub, 1) := by decide +kernel
theorem dX8_lots_51 : decode cX8_lots 51 = .ok (.iload_n 1, 1) := by decide +kernel
theorem dX8_lots_52 : decode cX8_lots 52 = .ok (.iload 4, 2) := by decide +kernel
theorem dX8_lots_54 : decode cX8_lots 54 = .ok (.isub, 1) := by decide +kernel
theorem dX8_lots_55 : decode cX8_lots 55 = .ok (.invokestatic 169, 3) := by decide +kernel
theorem dX8_lots_58 : decode cX8_lots 58 = .ok (.imul, 1) := by decide +kernel
theorem dX8_lots_59 : decode cX8_lots 59 = .ok (.iadd, 1) := by decide +kernel
theorem dX8_lots_60 : decode cX8_lots 60 = .ok (.istore_n 3, 1) := by decide +kernel
theorem dX8_lots_61 : decode cX8_lots 61 = .ok (.iinc 4 1, 3) := by decide +kernel
theorem dX8_lots_64 : decode cX8_lots 64 = .ok (.goto (-34), 3) := by decide +kernel
theorem dX8_lots_67 : decode cX8_lots 67 = .ok (.iload_n 3, 1) := by decide +kernel
theorem dX8_lots_68 : decode cX8_lots 68 = .ok (.ireturn, 1) := by decide +kernel
theorem dX8_feed_0 : decode cX8_feed 0 = .ok (.iload_n 2, 1) := by decide +kernel
theorem dX8_feed_1 : decode cX8_feed 1 = .ok (.iconst 1, 1) := by decide +kernel
theorem dX8_feed_2 : decode cX8_feed 2 = .ok (.iconst 4, 1) := by decide +kernel
theorem dX8_feed_3 : decode cX8_feed 3 = .ok (.invokestatic 57, 3) := by decide +kernel
theorem dX8_feed_6 : decode cX8_feed 6 = .ok (.ifCond .ne 10, 3) := by decide +kernel
theorem dX8_feed_9 : decode cX8_feed 9 = .ok (.aload_n 0, 1) := by decide +kernel
theorem dX8_feed_10 : decode cX8_feed 10 = .ok (.ldc 56, 2) := by decide +kernel
theorem dX8_feed_12 : decode cX8_feed 12 = .ok (.invokevirtual 83, 3) := by decide +kernel
theorem dX8_feed_15 : decode cX8_feed 15 = .ok (.ireturn, 1) := by decide +kernel
theorem dX8_feed_16 : decode cX8_feed 16 = .ok (.aload_n 0, 1) := by decide +kernel
theorem dX8_feed_17 : decode cX8_feed 17 = .ok (.getfield 178, 3) := by decide +kernel
theorem dX8_feed_20 : decode cX8_feed 20 = .ok (.iload_n 2, 1) := by decide +kernel
theorem dX8_feed_21 : decode cX8_feed 21 = .ok (.iadd, 1) := by decide +kernel
theorem dX8_feed_22 : decode cX8_feed 22 = .ok (.bipush 120, 2) := by decide +kernel
theorem dX8_feed_24 : decode cX8_feed 24 = .ok (.if_icmp .le 10, 3) := by decide +kernel
theorem dX8_feed_27 : decode cX8_feed 27 = .ok (.aload_n 0, 1) := by decide +kernel
theorem dX8_feed_28 : decode cX8_feed 28 = .ok (.ldc 86, 2) := by decide +kernel
theorem dX8_feed_30 : decode cX8_feed 30 = .ok (.invokevirtual 83, 3) := by decide +kernel
theorem dX8_feed_33 : decode cX8_feed 33 = .ok (.ireturn, 1) := by decide +kernel
theorem dX8_feed_34 : decode cX8_feed 34 = .ok (.iload_n 2, 1) := by decide +kernel
theorem dX8_feed_35 : decode cX8_feed 35 = .ok (.iconst 1, 1) := by decide +kernel
theorem dX8_feed_36 : decode cX8_feed 36 = .ok (.isub, 1) := by decide +kernel
theorem dX8_feed_37 : decode cX8_feed 37 = .ok (.istore_n 3, 1) := by decide +kernel
theorem dX8_feed_38 : decode cX8_feed 38 = .ok (.iload_n 3, 1) := by decide +kernel
theorem dX8_feed_39 : decode cX8_feed 39 = .ok (.ifCond .lt 38, 3) := by decide +kernel
theorem dX8_feed_42 : decode cX8_feed 42 = .ok (.aload_n 0, 1) := by decide +kernel
theorem dX8_feed_43 : decode cX8_feed 43 = .ok (.getfield 34, 3) := by decide +kernel
theorem dX8_feed_46 : decode cX8_feed 46 = .ok (.aload_n 0, 1) := by decide +kernel
theorem dX8_feed_47 : decode cX8_feed 47 = .ok (.getfield 178, 3) := by decide +kernel
theorem dX8_feed_50 : decode cX8_feed 50 = .ok (.iload_n 1, 1) := by decide +kernel
theorem dX8_feed_51 : decode cX8_feed 51 = .ok (.bipush 8, 2) := by decide +kernel
theorem dX8_feed_53 : decode cX8_feed 53 = .ok (.iload_n 3, 1) := by decide +kernel
theorem dX8_feed_54 : decode cX8_feed 54 = .ok (.imul, 1) := by decide +kernel
theorem dX8_feed_55 : decode cX8_feed 55 = .ok (.ishr, 1) := by decide +kernel
theorem dX8_feed_56 : decode cX8_feed 56 = .ok (.sipush 255, 3) := by decide +kernel
theorem dX8_feed_59 : decode cX8_feed 59 = .ok (.iand, 1) := by decide +kernel
theorem dX8_feed_60 : decode cX8_feed 60 = .ok (.iastore, 1) := by decide +kernel
theorem dX8_feed_61 : decode cX8_feed 61 = .ok (.aload_n 0, 1) := by decide +kernel
theorem dX8_feed_62 : decode cX8_feed 62 = .ok (.dup, 1) := by decide +kernel
theorem dX8_feed_63 : decode cX8_feed 63 = .ok (.getfield 178, 3) := by decide +kernel
theorem dX8_feed_66 : decode cX8_feed 66 = .ok (.iconst 1, 1) := by decide +kernel
theorem dX8_feed_67 : decode cX8_feed 67 = .ok (.iadd, 1) := by decide +kernel
theorem dX8_feed_68 : decode cX8_feed 68 = .ok (.putfield 178, 3) := by decide +kernel
theorem dX8_feed_71 : decode cX8_feed 71 = .ok (.iinc 3 (-1), 3) := by decide +kernel
theorem dX8_feed_74 : decode cX8_feed 74 = .ok (.goto (-36), 3) := by decide +kernel
theorem dX8_feed_77 : decode cX8_feed 77 = .ok (.aload_n 0, 1) := by decide +kernel
theorem dX8_feed_78 : decode cX8_feed 78 = .ok (.getfield 178, 3) := by decide +kernel
theorem dX8_feed_81 : decode cX8_feed 81 = .ok (.ireturn, 1) := by decide +kernel
theorem dX8_wipe_0 : decode cX8_wipe 0 = .ok (.aload_n 0, 1) := by decide +kernel
theorem dX8_wipe_1 : decode cX8_wipe 1 = .ok (.getfield 178, 3) := by decide +kernel
theorem dX8_wipe_4 : decode cX8_wipe 4 = .ok (.istore_n 1, 1) := by decide +kernel
theorem dX8_wipe_5 : decode cX8_wipe 5 = .ok (.aload_n 0, 1) := by decide +kernel
theorem dX8_wipe_6 : decode cX8_wipe 6 = .ok (.iconst 0, 1) := by decide +kernel
theorem dX8_wipe_7 : decode cX8_wipe 7 = .ok (.putfield 178, 3) := by decide +kernel
theorem dX8_wipe_10 : decode cX8_wipe 10 = .ok (.iload_n 1, 1) := by decide +kernel
theorem dX8_wipe_11 : decode cX8_wipe 11 = .ok (.ireturn, 1) := by decide +kernel
theorem dX8_byteAt_0 : decode cX8_byteAt 0 = .ok (.iload_n 1, 1) := by decide +kernel
theorem dX8_byteAt_1 : decode cX8_byteAt 1 = .ok (.aload_n 0, 1) := by decide +kernel
theorem dX8_byteAt_2 : decode cX8_byteAt 2 = .ok (.getfield 178, 3) := by decide +kernel
theorem dX8_byteAt_5 : decode cX8_byteAt 5 = .ok (.if_icmp .ge 12, 3) := by decide +kernel
theorem dX8_byteAt_8 : decode cX8_byteAt 8 = .ok (.aload_n 0, 1) := by decide +kernel
theorem dX8_byteAt_9 : decode cX8_byteAt 9 = .ok (.getfield 34, 3) := by decide +kernel
theorem dX8_byteAt_12 : decode cX8_byteAt 12 = .ok (.iload_n 1, 1) := by decide +kernel
theorem dX8_byteAt_13 : decode cX8_byteAt 13 = .ok (.iaload, 1) := by decide +kernel
theorem dX8_byteAt_14 : decode cX8_byteAt 14 = .ok (.goto 4, 3) := by decide +kernel
theorem dX8_byteAt_17 : decode cX8_byteAt 17 = .ok (.iconst (-1), 1) := by decide +kernel
theorem dX8_byteAt_18 : decode cX8_byteAt 18 = .ok (.ireturn, 1) := by decide +kernel
theorem dX8_isLetter_0 : decode cX8_isLetter 0 = .ok (.iload_n 0, 1) := by decide +kernel
theorem dX8_isLetter_1 : decode cX8_isLetter 1 = .ok (.bipush 97, 2) := by decide +kernel
theorem dX8_isLetter_3 : decode cX8_isLetter 3 = .ok (.bipush 122, 2) := by decide +kernel
theorem dX8_isLetter_5 : decode cX8_isLetter 5 = .ok (.invokestatic 57, 3) := by decide +kernel
theorem dX8_isLetter_8 : decode cX8_isLetter 8 = .ok (.ireturn, 1) := by decide +kernel
theorem dX8_isDigit_0 : decode cX8_isDigit 0 = .ok (.iload_n 0, 1) := by decide +kernel
theorem dX8_isDigit_1 : decode cX8_isDigit 1 = .ok (.bipush 48, 2) := by decide +kernel
theorem dX8_isDigit_3 : decode cX8_isDigit 3 = .ok (.bipush 57, 2) := by decide +kernel
theorem dX8_isDigit_5 : decode cX8_isDigit 5 = .ok (.invokestatic 57, 3) := by decide +kernel
theorem dX8_isDigit_8 : decode cX8_isDigit 8 = .ok (.ireturn, 1) := by decide +kernel
theorem dX8_advance_0 : decode cX8_advance 0 = .ok (.aload_n 0, 1) := by decide +kernel
theorem dX8_advance_1 : decode cX8_advance 1 = .ok (.aload_n 0, 1) := by decide +kernel
theorem dX8_advance_2 : decode cX8_advance 2 = .ok (.getfield 182, 3) := by decide +kernel
theorem dX8_advance_5 : decode cX8_advance 5 = .ok (.putfield 185, 3) := by decide +kernel
theorem dX8_advance_8 : decode cX8_advance 8 = .ok (.aload_n 0, 1) := by decide +kernel
theorem dX8_advance_9 : decode cX8_advance 9 = .ok (.aload_n 0, 1) := by decide +kernel
theorem dX8_advance_10 : decode cX8_advance 10 = .ok (.getfield 185, 3) := by decide +kernel
theorem dX8_advance_13 : decode cX8_advance 13 = .ok (.invokevirtual 188, 3) := by decide +kernel
theorem dX8_advance_16 : decode cX8_advance 16 = .ok (.bipush 32, 2) := by decide +kernel
theorem dX8_advance_18 : decode cX8_advance 18 = .ok (.if_icmp .ne 16, 3) := by decide +kernel
theorem dX8_advance_21 : decode cX8_advance 21 = .ok (.aload_n 0, 1) := by decide +kernel
theorem dX8_advance_22 : decode cX8_advance 22 = .ok (.dup, 1) := by decide +kernel
theorem dX8_advance_23 : decode cX8_advance 23 = .ok (.getfield 185, 3) := by decide +kernel
theorem dX8_advance_26 : decode cX8_advance 26 = .ok (.iconst 1, 1) := by decide +kernel
theorem dX8_advance_27 : decode cX8_advance 27 = .ok (.iadd, 1) := by decide +kernel
theorem dX8_advance_28 : decode cX8_advance 28 = .ok (.putfield 185, 3) := by decide +kernel
theorem dX8_advance_31 : decode cX8_advance 31 = .ok (.goto (-23), 3) := by decide +kernel
theorem dX8_advance_34 : decode cX8_advance 34 = .ok (.aload_n 0, 1) := by decide +kernel
theorem dX8_advance_35 : decode cX8_advance 35 = .ok (.aload_n 0, 1) := by decide +kernel
theorem dX8_advance_36 : decode cX8_advance 36 = .ok (.getfield 185, 3) := by decide +kernel
theorem dX8_advance_39 : decode cX8_advance 39 = .ok (.putfield 182, 3) := by decide +kernel
theorem dX8_advance_42 : decode cX8_advance 42 = .ok (.aload_n 0, 1) := by decide +kernel
theorem dX8_advance_43 : decode cX8_advance 43 = .ok (.aload_n 0, 1) := by decide +kernel
theorem dX8_advance_44 : decode cX8_advance 44 = .ok (.getfield 185, 3) := by decide +kernel
theorem dX8_advance_47 : decode cX8_advance 47 = .ok (.invokevirtual 188, 3) := by decide +kernel
theorem dX8_advance_50 : decode cX8_advance 50 = .ok (.istore_n 1, 1) := by decide +kernel
theorem dX8_advance_51 : decode cX8_advance 51 = .ok (.aload_n 0, 1) := by decide +kernel
theorem dX8_advance_52 : decode cX8_advance 52 = .ok (.iload_n 1, 1) := by decide +kernel
theorem dX8_advance_53 : decode cX8_advance 53 = .ok (.ifCond .ge 7, 3) := by decide +kernel
theorem dX8_advance_56 : decode cX8_advance 56 = .ok (.iconst 0, 1) := by decide +kernel
theorem dX8_advance_57 : decode cX8_advance 57 = .ok (.goto 26, 3) := by decide +kernel
theorem dX8_advance_60 : decode cX8_advance 60 = .ok (.iload_n 1, 1) := by decide +kernel
theorem dX8_advance_61 : decode cX8_advance 61 = .ok (.invokestatic 191, 3) := by decide +kernel
theorem dX8_advance_64 : decode cX8_advance 64 = .ok (.ifCond .eq 7, 3) := by decide +kernel
theorem dX8_advance_67 : decode cX8_advance 67 = .ok (.iconst 1, 1) := by decide +kernel
theorem dX8_advance_68 : decode cX8_advance 68 = .ok (.goto 15, 3) := by decide +kernel
theorem dX8_advance_71 : decode cX8_advance 71 = .ok (.iload_n 1, 1) := by decide +kernel
theorem dX8_advance_72 : decode cX8_advance 72 = .ok (.invokestatic 194, 3) := by decide +kernel
theorem dX8_advance_75 : decode cX8_advance 75 = .ok (.ifCond .eq 7, 3) := by decide +kernel
theorem dX8_advance_78 : decode cX8_advance 78 = .ok (.iconst 2, 1) := by decide +kernel
theorem dX8_advance_79 : decode cX8_advance 79 = .ok (.goto 4, 3) := by decide +kernel
theorem dX8_advance_82 : decode cX8_advance 82 = .ok (.iconst 3, 1) := by decide +kernel
theorem dX8_advance_83 : decode cX8_advance 83 = .ok (.putfield 197, 3) := by decide +kernel
theorem dX8_advance_86 : decode cX8_advance 86 = .ok (.aload_n 0, 1) := by decide +kernel
theorem dX8_advance_87 : decode cX8_advance 87 = .ok (.lconst 0, 1) := by decide +kernel
theorem dX8_advance_88 : decode cX8_advance 88 = .ok (.putfield 200, 3) := by decide +kernel
theorem dX8_advance_91 : decode cX8_advance 91 = .ok (.aload_n 0, 1) := by decide +kernel
theorem dX8_advance_92 : decode cX8_advance 92 = .ok (.aload_n 0, 1) := by decide +kernel
theorem dX8_advance_93 : decode cX8_advance 93 = .ok (.getfield 197, 3) := by decide +kernel
theorem dX8_advance_96 : decode cX8_advance 96 = .ok (.iconst 2, 1) := by decide +kernel
theorem dX8_advance_97 : decode cX8_advance 97 = .ok (.if_icmp .ne 7, 3) := by decide +kernel
theorem dX8_advance_100 : decode cX8_advance 100 = .ok (.iconst 0, 1) := by decide +kernel
theorem dX8_advance_101 : decode cX8_advance 101 = .ok (.goto 4, 3) := by decide +kernel
theorem dX8_advance_104 : decode cX8_advance 104 = .ok (.iload_n 1, 1) := by decide +kernel
theorem dX8_advance_105 : decode cX8_advance 105 = .ok (.putfield 204, 3) := by decide +kernel
theorem dX8_advance_108 : decode cX8_advance 108 = .ok (.aload_n 0, 1) := by decide +kernel
theorem dX8_advance_109 : decode cX8_advance 109 = .ok (.getfield 197, 3) := by decide +kernel
theorem dX8_advance_112 : decode cX8_advance 112 = .ok (.iconst 3, 1) := by decide +kernel
theorem dX8_advance_113 : decode cX8_advance 113 = .ok (.if_icmp .ne 13, 3) := by decide +kernel
theorem dX8_advance_116 : decode cX8_advance 116 = .ok (.aload_n 0, 1) := by decide +kernel
theorem dX8_advance_117 : decode cX8_advance 117 = .ok (.dup, 1) := by decide +kernel
theorem dX8_advance_118 : decode cX8_advance 118 = .ok (.getfield 182, 3) := by decide +kernel
theorem dX8_advance_121 : decode cX8_advance 121 = .ok (.iconst 1, 1) := by decide +kernel
theorem dX8_advance_122 : decode cX8_advance 122 = .ok (.iadd, 1) := by decide +kernel
theorem dX8_advance_123 : decode cX8_advance 123 = .ok (.putfield 182, 3) := by decide +kernel
theorem dX8_advance_126 : decode cX8_advance 126 = .ok (.aload_n 0, 1) := by decide +kernel
theorem dX8_advance_127 : decode cX8_advance 127 = .ok (.getfield 197, 3) := by decide +kernel
theorem dX8_advance_130 : decode cX8_advance 130 = .ok (.iconst 1, 1) := by decide +kernel
theorem dX8_advance_131 : decode cX8_advance 131 = .ok (.if_icmp .ne 76, 3) := by decide +kernel
theorem dX8_advance_134 : decode cX8_advance 134 = .ok (.aload_n 0, 1) := by decide +kernel
theorem dX8_advance_135 : decode cX8_advance 135 = .ok (.aload_n 0, 1) := by decide +kernel
theorem dX8_advance_136 : decode cX8_advance 136 = .ok (.getfield 182, 3) := by decide +kernel
theorem dX8_advance_139 : decode cX8_advance 139 = .ok (.invokevirtual 188, 3) := by decide +kernel
theorem dX8_advance_142 : decode cX8_advance 142 = .ok (.invokestatic 191, 3) := by decide +kernel
theorem dX8_advance_145 : decode cX8_advance 145 = .ok (.ifCond .eq 62, 3) := by decide +kernel
theorem dX8_advance_148 : decode cX8_advance 148 = .ok (.aload_n 0, 1) := by decide +kernel
theorem dX8_advance_149 : decode cX8_advance 149 = .ok (.aload_n 0, 1) := by decide +kernel
theorem dX8_advance_150 : decode cX8_advance 150 = .ok (.getfield 182, 3) := by decide +kernel
theorem dX8_advance_153 : decode cX8_advance 153 = .ok (.aload_n 0, 1) := by decide +kernel
theorem dX8_advance_154 : decode cX8_advance 154 = .ok (.getfield 185, 3) := by decide +kernel
theorem dX8_advance_157 : decode cX8_advance 157 = .ok (.isub, 1) := by decide +kernel
theorem dX8_advance_158 : decode cX8_advance 158 = .ok (.bipush 12, 2) := by decide +kernel
theorem dX8_advance_160 : decode cX8_advance 160 = .ok (.if_icmp .ge 28, 3) := by decide +kernel
theorem dX8_advance_163 : decode cX8_advance 163 = .ok (.ldc2_w 207, 3) := by decide +kernel
theorem dX8_advance_166 : decode cX8_advance 166 = .ok (.aload_n 0, 1) := by decide +kernel
theorem dX8_advance_167 : decode cX8_advance 167 = .ok (.getfield 200, 3) := by decide +kernel
theorem dX8_advance_170 : decode cX8_advance 170 = .ok (.lmul, 1) := by decide +kernel
theorem dX8_advance_171 : decode cX8_advance 171 = .ok (.aload_n 0, 1) := by decide +kernel
theorem dX8_advance_172 : decode cX8_advance 172 = .ok (.aload_n 0, 1) := by decide +kernel
theorem dX8_advance_173 : decode cX8_advance 173 = .ok (.getfield 182, 3) := by decide +kernel
theorem dX8_advance_176 : decode cX8_advance 176 = .ok (.invokevirtual 188, 3) := by decide +kernel
theorem dX8_advance_179 : decode cX8_advance 179 = .ok (.i2l, 1) := by decide +kernel
theorem dX8_advance_180 : decode cX8_advance 180 = .ok (.ladd, 1) := by decide +kernel
theorem dX8_advance_181 : decode cX8_advance 181 = .ok (.ldc2_w 209, 3) := by decide +kernel
theorem dX8_advance_184 : decode cX8_advance 184 = .ok (.lsub, 1) := by decide +kernel
theorem dX8_advance_185 : decode cX8_advance 185 = .ok (.goto 6, 3) := by decide +kernel
theorem dX8_advance_188 : decode cX8_advance 188 = .ok (.ldc2_w 211, 3) := by decide +kernel
theorem dX8_advance_191 : decode cX8_advance 191 = .ok (.putfield 200, 3) := by decide +kernel
theorem dX8_advance_194 : decode cX8_advance 194 = .ok (.aload_n 0, 1) := by decide +kernel
theorem dX8_advance_195 : decode cX8_advance 195 = .ok (.dup, 1) := by decide +kernel
theorem dX8_advance_196 : decode cX8_advance 196 = .ok (.getfield 182, 3) := by decide +kernel
theorem dX8_advance_199 : decode cX8_advance 199 = .ok (.iconst 1, 1) := by decide +kernel
theorem dX8_advance_200 : decode cX8_advance 200 = .ok (.iadd, 1) := by decide +kernel
theorem dX8_advance_201 : decode cX8_advance 201 = .ok (.putfield 182, 3) := by decide +kernel
theorem dX8_advance_204 : decode cX8_advance 204 = .ok (.goto (-78), 3) := by decide +kernel
theorem dX8_advance_207 : decode cX8_advance 207 = .ok (.aload_n 0, 1) := by decide +kernel
theorem dX8_advance_208 : decode cX8_advance 208 = .ok (.getfield 197, 3) := by decide +kernel
theorem dX8_advance_211 : decode cX8_advance 211 = .ok (.iconst 2, 1) := by decide +kernel
theorem dX8_advance_212 : decode cX8_advance 212 = .ok (.if_icmp .ne 69, 3) := by decide +kernel
theorem dX8_advance_215 : decode cX8_advance 215 = .ok (.aload_n 0, 1) := by decide +kernel
theorem dX8_advance_216 : decode cX8_advance 216 = .ok (.aload_n 0, 1) := by decide +kernel
theorem dX8_advance_217 : decode cX8_advance 217 = .ok (.getfield 182, 3) := by decide +kernel
theorem dX8_advance_220 : decode cX8_advance 220 = .ok (.invokevirtual 188, 3) := by decide +kernel
theorem dX8_advance_223 : decode cX8_advance 223 = .ok (.invokestatic 194, 3) := by decide +kernel
theorem dX8_advance_226 : decode cX8_advance 226 = .ok (.ifCond .eq 55, 3) := by decide +kernel
theorem dX8_advance_229 : decode cX8_advance 229 = .ok (.aload_n 0, 1) := by decide +kernel
theorem dX8_advance_230 : decode cX8_advance 230 = .ok (.aload_n 0, 1) := by decide +kernel
theorem dX8_advance_231 : decode cX8_advance 231 = .ok (.getfield 204, 3) := by decide +kernel
theorem dX8_advance_234 : decode cX8_advance 234 = .ok (.sipush 999, 3) := by decide +kernel
theorem dX8_advance_237 : decode cX8_advance 237 = .ok (.if_icmp .le 9, 3) := by decide +kernel
theorem dX8_advance_240 : decode cX8_advance 240 = .ok (.sipush 10000, 3) := by decide +kernel
theorem dX8_advance_243 : decode cX8_advance 243 = .ok (.goto 22, 3) := by decide +kernel
theorem dX8_advance_246 : decode cX8_advance 246 = .ok (.bipush 10, 2) := by decide +kernel
theorem dX8_advance_248 : decode cX8_advance 248 = .ok (.aload_n 0, 1) := by decide +kernel
theorem dX8_advance_249 : decode cX8_advance 249 = .ok (.getfield 204, 3) := by decide +kernel
theorem dX8_advance_252 : decode cX8_advance 252 = .ok (.imul, 1) := by decide +kernel
theorem dX8_advance_253 : decode cX8_advance 253 = .ok (.aload_n 0, 1) := by decide +kernel
theorem dX8_advance_254 : decode cX8_advance 254 = .ok (.aload_n 0, 1) := by decide +kernel
theorem dX8_advance_255 : decode cX8_advance 255 = .ok (.getfield 182, 3) := by decide +kernel
theorem dX8_advance_258 : decode cX8_advance 258 = .ok (.invokevirtual 188, 3) := by decide +kernel
theorem dX8_advance_261 : decode cX8_advance 261 = .ok (.iadd, 1) := by decide +kernel
theorem dX8_advance_262 : decode cX8_advance 262 = .ok (.bipush 48, 2) := by decide +kernel
theorem dX8_advance_264 : decode cX8_advance 264 = .ok (.isub, 1) := by decide +kernel
theorem dX8_advance_265 : decode cX8_advance 265 = .ok (.putfield 204, 3) := by decide +kernel
theorem dX8_advance_268 : decode cX8_advance 268 = .ok (.aload_n 0, 1) := by decide +kernel
theorem dX8_advance_269 : decode cX8_advance 269 = .ok (.dup, 1) := by decide +kernel
theorem dX8_advance_270 : decode cX8_advance 270 = .ok (.getfield 182, 3) := by decide +kernel
theorem dX8_advance_273 : decode cX8_advance 273 = .ok (.iconst 1, 1) := by decide +kernel
theorem dX8_advance_274 : decode cX8_advance 274 = .ok (.iadd, 1) := by decide +kernel
theorem dX8_advance_275 : decode cX8_advance 275 = .ok (.putfield 182, 3) := by decide +kernel
theorem dX8_advance_278 : decode cX8_advance 278 = .ok (.goto (-71), 3) := by decide +kernel
theorem dX8_advance_281 : decode cX8_advance 281 = .ok (.return_, 1) := by decide +kernel
theorem dX8_isWord_0 : decode cX8_isWord 0 = .ok (.aload_n 0, 1) := by decide +kernel
theorem dX8_isWord_1 : decode cX8_isWord 1 = .ok (.getfield 197, 3) := by decide +kernel
theorem dX8_isWord_4 : decode cX8_isWord 4 = .ok (.iconst 1, 1) := by decide +kernel
theorem dX8_isWord_5 : decode cX8_isWord 5 = .ok (.if_icmp .ne 16, 3) := by decide +kernel
theorem dX8_isWord_8 : decode cX8_isWord 8 = .ok (.aload_n 0, 1) := by decide +kernel
theorem dX8_isWord_9 : decode cX8_isWord 9 = .ok (.getfield 200, 3) := by decide +kernel
theorem dX8_isWord_12 : decode cX8_isWord 12 = .ok (.lload_n 1, 1) := by decide +kernel
theorem dX8_isWord_13 : decode cX8_isWord 13 = .ok (.lcmp, 1) := by decide +kernel
theorem dX8_isWord_14 : decode cX8_isWord 14 = .ok (.ifCond .ne 7, 3) := by decide +kernel
theorem dX8_isWord_17 : decode cX8_isWord 17 = .ok (.iconst 1, 1) := by decide +kernel
theorem dX8_isWord_18 : decode cX8_isWord 18 = .ok (.goto 4, 3) := by decide +kernel
theorem dX8_isWord_21 : decode cX8_isWord 21 = .ok (.iconst 0, 1) := by decide +kernel
theorem dX8_isWord_22 : decode cX8_isWord 22 = .ok (.ireturn, 1) := by decide +kernel
theorem dX8_kindHere_0 : decode cX8_kindHere 0 = .ok (.aload_n 0, 1) := by decide +kernel
theorem dX8_kindHere_1 : decode cX8_kindHere 1 = .ok (.ldc2_w 213, 3) := by decide +kernel
theorem dX8_kindHere_4 : decode cX8_kindHere 4 = .ok (.invokevirtual 215, 3) := by decide +kernel
theorem dX8_kindHere_7 : decode cX8_kindHere 7 = .ok (.ifCond .eq 7, 3) := by decide +kernel
theorem dX8_kindHere_10 : decode cX8_kindHere 10 = .ok (.iconst 0, 1) := by decide +kernel
theorem dX8_kindHere_11 : decode cX8_kindHere 11 = .ok (.goto 74, 3) := by decide +kernel
theorem dX8_kindHere_14 : decode cX8_kindHere 14 = .ok (.aload_n 0, 1) := by decide +kernel
theorem dX8_kindHere_15 : decode cX8_kindHere 15 = .ok (.ldc2_w 219, 3) := by decide +kernel
theorem dX8_kindHere_18 : decode cX8_kindHere 18 = .ok (.invokevirtual 215, 3) := by decide +kernel
theorem dX8_kindHere_21 : decode cX8_kindHere 21 = .ok (.ifCond .eq 7, 3) := by decide +kernel
theorem dX8_kindHere_24 : decode cX8_kindHere 24 = .ok (.iconst 1, 1) := by decide +kernel
theorem dX8_kindHere_25 : decode cX8_kindHere 25 = .ok (.goto 60, 3) := by decide +kernel
theorem dX8_kindHere_28 : decode cX8_kindHere 28 = .ok (.aload_n 0, 1) := by decide +kernel
theorem dX8_kindHere_29 : decode cX8_kindHere 29 = .ok (.ldc2_w 221, 3) := by decide +kernel
theorem dX8_kindHere_32 : decode cX8_kindHere 32 = .ok (.invokevirtual 215, 3) := by decide +kernel
theorem dX8_kindHere_35 : decode cX8_kindHere 35 = .ok (.ifCond .eq 7, 3) := by decide +kernel
theorem dX8_kindHere_38 : decode cX8_kindHere 38 = .ok (.iconst 2, 1) := by decide +kernel
theorem dX8_kindHere_39 : decode cX8_kindHere 39 = .ok (.goto 46, 3) := by decide +kernel
theorem dX8_kindHere_42 : decode cX8_kindHere 42 = .ok (.aload_n 0, 1) := by decide +kernel
theorem dX8_kindHere_43 : decode cX8_kindHere 43 = .ok (.ldc2_w 223, 3) := by decide +kernel
theorem dX8_kindHere_46 : decode cX8_kindHere 46 = .ok (.invokevirtual 215, 3) := by decide +kernel
theorem dX8_kindHere_49 : decode cX8_kindHere 49 = .ok (.ifCond .eq 7, 3) := by decide +kernel
theorem dX8_kindHere_52 : decode cX8_kindHere 52 = .ok (.iconst 3, 1) := by decide +kernel
theorem dX8_kindHere_53 : decode cX8_kindHere 53 = .ok (.goto 32, 3) := by decide +kernel
theorem dX8_kindHere_56 : decode cX8_kindHere 56 = .ok (.aload_n 0, 1) := by decide +kernel
theorem dX8_kindHere_57 : decode cX8_kindHere 57 = .ok (.ldc2_w 225, 3) := by decide +kernel
theorem dX8_kindHere_60 : decode cX8_kindHere 60 = .ok (.invokevirtual 215, 3) := by decide +kernel
theorem dX8_kindHere_63 : decode cX8_kindHere 63 = .ok (.ifCond .eq 7, 3) := by decide +kernel
theorem dX8_kindHere_66 : decode cX8_kindHere 66 = .ok (.iconst 4, 1) := by decide +kernel
theorem dX8_kindHere_67 : decode cX8_kindHere 67 = .ok (.goto 18, 3) := by decide +kernel
theorem dX8_kindHere_70 : decode cX8_kindHere 70 = .ok (.aload_n 0, 1) := by decide +kernel
theorem dX8_kindHere_71 : decode cX8_kindHere 71 = .ok (.ldc2_w 227, 3) := by decide +kernel
theorem dX8_kindHere_74 : decode cX8_kindHere 74 = .ok (.invokevirtual 215, 3) := by decide +kernel
theorem dX8_kindHere_77 : decode cX8_kindHere 77 = .ok (.ifCond .eq 7, 3) := by decide +kernel
theorem dX8_kindHere_80 : decode cX8_kindHere 80 = .ok (.iconst 5, 1) := by decide +kernel
theorem dX8_kindHere_81 : decode cX8_kindHere 81 = .ok (.goto 4, 3) := by decide +kernel
theorem dX8_kindHere_84 : decode cX8_kindHere 84 = .ok (.iconst (-1), 1) := by decide +kernel
theorem dX8_kindHere_85 : decode cX8_kindHere 85 = .ok (.ireturn, 1) := by decide +kernel
theorem dX8_wantNumber_0 : decode cX8_wantNumber 0 = .ok (.aload_n 0, 1) := by decide +kernel
theorem dX8_wantNumber_1 : decode cX8_wantNumber 1 = .ok (.getfield 204, 3) := by decide +kernel
theorem dX8_wantNumber_4 : decode cX8_wantNumber 4 = .ok (.istore_n 3, 1) := by decide +kernel
theorem dX8_wantNumber_5 : decode cX8_wantNumber 5 = .ok (.aload_n 0, 1) := by decide +kernel
theorem dX8_wantNumber_6 : decode cX8_wantNumber 6 = .ok (.aload_n 0, 1) := by decide +kernel
theorem dX8_wantNumber_7 : decode cX8_wantNumber 7 = .ok (.getfield 229, 3) := by decide +kernel
theorem dX8_wantNumber_10 : decode cX8_wantNumber 10 = .ok (.ifCond .eq 24, 3) := by decide +kernel
theorem dX8_wantNumber_13 : decode cX8_wantNumber 13 = .ok (.aload_n 0, 1) := by decide +kernel
theorem dX8_wantNumber_14 : decode cX8_wantNumber 14 = .ok (.getfield 197, 3) := by decide +kernel
theorem dX8_wantNumber_17 : decode cX8_wantNumber 17 = .ok (.iconst 2, 1) := by decide +kernel
theorem dX8_wantNumber_18 : decode cX8_wantNumber 18 = .ok (.if_icmp .ne 16, 3) := by decide +kernel
theorem dX8_wantNumber_21 : decode cX8_wantNumber 21 = .ok (.iload_n 3, 1) := by decide +kernel
theorem dX8_wantNumber_22 : decode cX8_wantNumber 22 = .ok (.iload_n 1, 1) := by decide +kernel
theorem dX8_wantNumber_23 : decode cX8_wantNumber 23 = .ok (.iload_n 2, 1) := by decide +kernel
theorem dX8_wantNumber_24 : decode cX8_wantNumber 24 = .ok (.invokestatic 57, 3) := by decide +kernel
theorem dX8_wantNumber_27 : decode cX8_wantNumber 27 = .ok (.ifCond .eq 7, 3) := by decide +kernel
theorem dX8_wantNumber_30 : decode cX8_wantNumber 30 = .ok (.iconst 1, 1) := by decide +kernel
theorem dX8_wantNumber_31 : decode cX8_wantNumber 31 = .ok (.goto 4, 3) := by decide +kernel
theorem dX8_wantNumber_34 : decode cX8_wantNumber 34 = .ok (.iconst 0, 1) := by decide +kernel
theorem dX8_wantNumber_35 : decode cX8_wantNumber 35 = .ok (.putfield 229, 3) := by decide +kernel
theorem dX8_wantNumber_38 : decode cX8_wantNumber 38 = .ok (.aload_n 0, 1) := by decide +kernel
theorem dX8_wantNumber_39 : decode cX8_wantNumber 39 = .ok (.getfield 229, 3) := by decide +kernel
theorem dX8_wantNumber_42 : decode cX8_wantNumber 42 = .ok (.ifCond .eq 7, 3) := by decide +kernel
theorem dX8_wantNumber_45 : decode cX8_wantNumber 45 = .ok (.aload_n 0, 1) := by decide +kernel
theorem dX8_wantNumber_46 : decode cX8_wantNumber 46 = .ok (.invokevirtual 233, 3) := by decide +kernel
theorem dX8_wantNumber_49 : decode cX8_wantNumber 49 = .ok (.iload_n 3, 1) := by decide +kernel
theorem dX8_wantNumber_50 : decode cX8_wantNumber 50 = .ok (.ireturn, 1) := by decide +kernel
theorem dX8_mayWant_0 : decode cX8_mayWant 0 = .ok (.aload_n 0, 1) := by decide +kernel
theorem dX8_mayWant_1 : decode cX8_mayWant 1 = .ok (.getfield 229, 3) := by decide +kernel
theorem dX8_mayWant_4 : decode cX8_mayWant 4 = .ok (.ifCond .eq 11, 3) := by decide +kernel
theorem dX8_mayWant_7 : decode cX8_mayWant 7 = .ok (.aload_n 0, 1) := by decide +kernel
theorem dX8_mayWant_8 : decode cX8_mayWant 8 = .ok (.lload_n 1, 1) := by decide +kernel
theorem dX8_mayWant_9 : decode cX8_mayWant 9 = .ok (.invokevirtual 215, 3) := by decide +kernel
theorem dX8_mayWant_12 : decode cX8_mayWant 12 = .ok (.ifCond .ne 6, 3) := by decide +kernel
theorem dX8_mayWant_15 : decode cX8_mayWant 15 = .ok (.iload 5, 2) := by decide +kernel
theorem dX8_mayWant_17 : decode cX8_mayWant 17 = .ok (.ireturn, 1) := by decide +kernel
theorem dX8_mayWant_18 : decode cX8_mayWant 18 = .ok (.aload_n 0, 1) := by decide +kernel
theorem dX8_mayWant_19 : decode cX8_mayWant 19 = .ok (.invokevirtual 233, 3) := by decide +kernel
theorem dX8_mayWant_22 : decode cX8_mayWant 22 = .ok (.aload_n 0, 1) := by decide +kernel
theorem dX8_mayWant_23 : decode cX8_mayWant 23 = .ok (.iload_n 3, 1) := by decide +kernel
theorem dX8_mayWant_24 : decode cX8_mayWant 24 = .ok (.iload 4, 2) := by decide +kernel
theorem dX8_mayWant_26 : decode cX8_mayWant 26 = .ok (.invokevirtual 236, 3) := by decide +kernel
theorem dX8_mayWant_29 : decode cX8_mayWant 29 = .ok (.ireturn, 1) := by decide +kernel
theorem dX8_wantPerson_0 : decode cX8_wantPerson 0 = .ok (.aload_n 0, 1) := by decide +kernel
theorem dX8_wantPerson_1 : decode cX8_wantPerson 1 = .ok (.aload_n 0, 1) := by decide +kernel
theorem dX8_wantPerson_2 : decode cX8_wantPerson 2 = .ok (.getfield 7, 3) := by decide +kernel
theorem dX8_wantPerson_5 : decode cX8_wantPerson 5 = .ok (.iconst 2, 1) := by decide +kernel
theorem dX8_wantPerson_6 : decode cX8_wantPerson 6 = .ok (.iaload, 1) := by decide +kernel
theorem dX8_wantPerson_7 : decode cX8_wantPerson 7 = .ok (.bipush 8, 2) := by decide +kernel
theorem dX8_wantPerson_9 : decode cX8_wantPerson 9 = .ok (.if_icmp .ge 7, 3) := by decide +kernel
theorem dX8_wantPerson_12 : decode cX8_wantPerson 12 = .ok (.iconst 1, 1) := by decide +kernel
theorem dX8_wantPerson_13 : decode cX8_wantPerson 13 = .ok (.goto 4, 3) := by decide +kernel
theorem dX8_wantPerson_16 : decode cX8_wantPerson 16 = .ok (.iconst 0, 1) := by decide +kernel
theorem dX8_wantPerson_17 : decode cX8_wantPerson 17 = .ok (.putfield 229, 3) := by decide +kernel
theorem dX8_wantPerson_20 : decode cX8_wantPerson 20 = .ok (.aload_n 0, 1) := by decide +kernel
theorem dX8_wantPerson_21 : decode cX8_wantPerson 21 = .ok (.getfield 229, 3) := by decide +kernel
theorem dX8_wantPerson_24 : decode cX8_wantPerson 24 = .ok (.ifCond .ne 4, 3) := by decide +kernel
theorem dX8_wantPerson_27 : decode cX8_wantPerson 27 = .ok (.return_, 1) := by decide +kernel
theorem dX8_wantPerson_28 : decode cX8_wantPerson 28 = .ok (.aload_n 0, 1) := by decide +kernel
theorem dX8_wantPerson_29 : decode cX8_wantPerson 29 = .ok (.invokevirtual 233, 3) := by decide +kernel
theorem dX8_wantPerson_32 : decode cX8_wantPerson 32 = .ok (.aload_n 0, 1) := by decide +kernel
theorem dX8_wantPerson_33 : decode cX8_wantPerson 33 = .ok (.ldc2_w 239, 3) := by decide +kernel
theorem dX8_wantPerson_36 : decode cX8_wantPerson 36 = .ok (.iconst 0, 1) := by decide +kernel
theorem dX8_wantPerson_37 : decode cX8_wantPerson 37 = .ok (.bipush 20, 2) := by decide +kernel
theorem dX8_wantPerson_39 : decode cX8_wantPerson 39 = .ok (.iconst 5, 1) := by decide +kernel
theorem dX8_wantPerson_40 : decode cX8_wantPerson 40 = .ok (.invokevirtual 241, 3) := by decide +kernel
theorem dX8_wantPerson_43 : decode cX8_wantPerson 43 = .ok (.istore_n 2, 1) := by decide +kernel
theorem dX8_wantPerson_44 : decode cX8_wantPerson 44 = .ok (.aload_n 0, 1) := by decide +kernel
theorem dX8_wantPerson_45 : decode cX8_wantPerson 45 = .ok (.ldc2_w 245, 3) := by decide +kernel
theorem dX8_wantPerson_48 : decode cX8_wantPerson 48 = .ok (.iconst 0, 1) := by decide +kernel
theorem dX8_wantPerson_49 : decode cX8_wantPerson 49 = .ok (.sipush 999, 3) := by decide +kernel
theorem dX8_wantPerson_52 : decode cX8_wantPerson 52 = .ok (.bipush 10, 2) := by decide +kernel
theorem dX8_wantPerson_54 : decode cX8_wantPerson 54 = .ok (.invokevirtual 241, 3) := by decide +kernel
theorem dX8_wantPerson_57 : decode cX8_wantPerson 57 = .ok (.istore_n 3, 1) := by decide +kernel
theorem dX8_wantPerson_58 : decode cX8_wantPerson 58 = .ok (.aload_n 0, 1) := by decide +kernel
theorem dX8_wantPerson_59 : decode cX8_wantPerson 59 = .ok (.ldc2_w 247, 3) := by decide +kernel
theorem dX8_wantPerson_62 : decode cX8_wantPerson 62 = .ok (.iconst 0, 1) := by decide +kernel
theorem dX8_wantPerson_63 : decode cX8_wantPerson 63 = .ok (.bipush 99, 2) := by decide +kernel
theorem dX8_wantPerson_65 : decode cX8_wantPerson 65 = .ok (.bipush 50, 2) := by decide +kernel
theorem dX8_wantPerson_67 : decode cX8_wantPerson 67 = .ok (.invokevirtual 241, 3) := by decide +kernel
theorem dX8_wantPerson_70 : decode cX8_wantPerson 70 = .ok (.istore 4, 2) := by decide +kernel
theorem dX8_wantPerson_72 : decode cX8_wantPerson 72 = .ok (.aload_n 0, 1) := by decide +kernel
theorem dX8_wantPerson_73 : decode cX8_wantPerson 73 = .ok (.getfield 229, 3) := by decide +kernel
theorem dX8_wantPerson_76 : decode cX8_wantPerson 76 = .ok (.ifCond .eq 12, 3) := by decide +kernel
theorem dX8_wantPerson_79 : decode cX8_wantPerson 79 = .ok (.aload_n 0, 1) := by decide +kernel
theorem dX8_wantPerson_80 : decode cX8_wantPerson 80 = .ok (.iload_n 1, 1) := by decide +kernel
theorem dX8_wantPerson_81 : decode cX8_wantPerson 81 = .ok (.iload_n 2, 1) := by decide +kernel
theorem dX8_wantPerson_82 : decode cX8_wantPerson 82 = .ok (.iload_n 3, 1) := by decide +kernel
theorem dX8_wantPerson_83 : decode cX8_wantPerson 83 = .ok (.iload 4, 2) := by decide +kernel
theorem dX8_wantPerson_85 : decode cX8_wantPerson 85 = .ok (.invokevirtual 87, 3) := by decide +kernel
theorem dX8_wantPerson_88 : decode cX8_wantPerson 88 = .ok (.return_, 1) := by decide +kernel
theorem dX8_wantSlip_0 : decode cX8_wantSlip 0 = .ok (.aload_n 0, 1) := by decide +kernel
theorem dX8_wantSlip_1 : decode cX8_wantSlip 1 = .ok (.invokevirtual 233, 3) := by decide +kernel
theorem dX8_wantSlip_4 : decode cX8_wantSlip 4 = .ok (.aload_n 0, 1) := by decide +kernel
theorem dX8_wantSlip_5 : decode cX8_wantSlip 5 = .ok (.iconst 0, 1) := by decide +kernel
theorem dX8_wantSlip_6 : decode cX8_wantSlip 6 = .ok (.aload_n 0, 1) := by decide +kernel
theorem dX8_wantSlip_7 : decode cX8_wantSlip 7 = .ok (.getfield 7, 3) := by decide +kernel
theorem dX8_wantSlip_10 : decode cX8_wantSlip 10 = .ok (.iconst 2, 1) := by decide +kernel
theorem dX8_wantSlip_11 : decode cX8_wantSlip 11 = .ok (.iaload, 1) := by decide +kernel
theorem dX8_wantSlip_12 : decode cX8_wantSlip 12 = .ok (.iconst 1, 1) := by decide +kernel
theorem dX8_wantSlip_13 : decode cX8_wantSlip 13 = .ok (.isub, 1) := by decide +kernel
theorem dX8_wantSlip_14 : decode cX8_wantSlip 14 = .ok (.invokevirtual 236, 3) := by decide +kernel
theorem dX8_wantSlip_17 : decode cX8_wantSlip 17 = .ok (.istore_n 1, 1) := by decide +kernel
theorem dX8_wantSlip_18 : decode cX8_wantSlip 18 = .ok (.aload_n 0, 1) := by decide +kernel
theorem dX8_wantSlip_19 : decode cX8_wantSlip 19 = .ok (.aload_n 0, 1) := by decide +kernel
theorem dX8_wantSlip_20 : decode cX8_wantSlip 20 = .ok (.getfield 229, 3) := by decide +kernel
theorem dX8_wantSlip_23 : decode cX8_wantSlip 23 = .ok (.ifCond .eq 17, 3) := by decide +kernel
theorem dX8_wantSlip_26 : decode cX8_wantSlip 26 = .ok (.aload_n 0, 1) := by decide +kernel
theorem dX8_wantSlip_27 : decode cX8_wantSlip 27 = .ok (.ldc2_w 249, 3) := by decide +kernel
theorem dX8_wantSlip_30 : decode cX8_wantSlip 30 = .ok (.invokevirtual 215, 3) := by decide +kernel
theorem dX8_wantSlip_33 : decode cX8_wantSlip 33 = .ok (.ifCond .eq 7, 3) := by decide +kernel
theorem dX8_wantSlip_36 : decode cX8_wantSlip 36 = .ok (.iconst 1, 1) := by decide +kernel
theorem dX8_wantSlip_37 : decode cX8_wantSlip 37 = .ok (.goto 4, 3) := by decide +kernel
theorem dX8_wantSlip_40 : decode cX8_wantSlip 40 = .ok (.iconst 0, 1) := by decide +kernel
theorem dX8_wantSlip_41 : decode cX8_wantSlip 41 = .ok (.putfield 229, 3) := by decide +kernel
theorem dX8_wantSlip_44 : decode cX8_wantSlip 44 = .ok (.aload_n 0, 1) := by decide +kernel
theorem dX8_wantSlip_45 : decode cX8_wantSlip 45 = .ok (.getfield 229, 3) := by decide +kernel
theorem dX8_wantSlip_48 : decode cX8_wantSlip 48 = .ok (.ifCond .ne 4, 3) := by decide +kernel
theorem dX8_wantSlip_51 : decode cX8_wantSlip 51 = .ok (.return_, 1) := by decide +kernel
theorem dX8_wantSlip_52 : decode cX8_wantSlip 52 = .ok (.aload_n 0, 1) := by decide +kernel
theorem dX8_wantSlip_53 : decode cX8_wantSlip 53 = .ok (.invokevirtual 233, 3) := by decide +kernel
theorem dX8_wantSlip_56 : decode cX8_wantSlip 56 = .ok (.aload_n 0, 1) := by decide +kernel
theorem dX8_wantSlip_57 : decode cX8_wantSlip 57 = .ok (.iconst 0, 1) := by decide +kernel
theorem dX8_wantSlip_58 : decode cX8_wantSlip 58 = .ok (.aload_n 0, 1) := by decide +kernel
theorem dX8_wantSlip_59 : decode cX8_wantSlip 59 = .ok (.getfield 7, 3) := by decide +kernel
theorem dX8_wantSlip_62 : decode cX8_wantSlip 62 = .ok (.iconst 2, 1) := by decide +kernel
theorem dX8_wantSlip_63 : decode cX8_wantSlip 63 = .ok (.iaload, 1) := by decide +kernel
theorem dX8_wantSlip_64 : decode cX8_wantSlip 64 = .ok (.iconst 1, 1) := by decide +kernel
theorem dX8_wantSlip_65 : decode cX8_wantSlip 65 = .ok (.isub, 1) := by decide +kernel
theorem dX8_wantSlip_66 : decode cX8_wantSlip 66 = .ok (.invokevirtual 236, 3) := by decide +kernel
theorem dX8_wantSlip_69 : decode cX8_wantSlip 69 = .ok (.istore_n 2, 1) := by decide +kernel
theorem dX8_wantSlip_70 : decode cX8_wantSlip 70 = .ok (.aload_n 0, 1) := by decide +kernel
theorem dX8_wantSlip_71 : decode cX8_wantSlip 71 = .ok (.getfield 229, 3) := by decide +kernel
theorem dX8_wantSlip_74 : decode cX8_wantSlip 74 = .ok (.ifCond .eq 13, 3) := by decide +kernel
theorem dX8_wantSlip_77 : decode cX8_wantSlip 77 = .ok (.aload_n 0, 1) := by decide +kernel
theorem dX8_wantSlip_78 : decode cX8_wantSlip 78 = .ok (.iload_n 1, 1) := by decide +kernel
theorem dX8_wantSlip_79 : decode cX8_wantSlip 79 = .ok (.aload_n 0, 1) := by decide +kernel
theorem dX8_wantSlip_80 : decode cX8_wantSlip 80 = .ok (.iload_n 2, 1) := by decide +kernel
theorem dX8_wantSlip_81 : decode cX8_wantSlip 81 = .ok (.invokevirtual 155, 3) := by decide +kernel
theorem dX8_wantSlip_84 : decode cX8_wantSlip 84 = .ok (.invokevirtual 107, 3) := by decide +kernel
theorem dX8_wantSlip_87 : decode cX8_wantSlip 87 = .ok (.return_, 1) := by decide +kernel
theorem dX8_wantItem_0 : decode cX8_wantItem 0 = .ok (.aload_n 0, 1) := by decide +kernel
theorem dX8_wantItem_1 : decode cX8_wantItem 1 = .ok (.invokevirtual 251, 3) := by decide +kernel
theorem dX8_wantItem_4 : decode cX8_wantItem 4 = .ok (.ifCond .lt 14, 3) := by decide +kernel
theorem dX8_wantItem_7 : decode cX8_wantItem 7 = .ok (.aload_n 0, 1) := by decide +kernel
theorem dX8_wantItem_8 : decode cX8_wantItem 8 = .ok (.aload_n 0, 1) := by decide +kernel
theorem dX8_wantItem_9 : decode cX8_wantItem 9 = .ok (.invokevirtual 251, 3) := by decide +kernel
theorem dX8_wantItem_12 : decode cX8_wantItem 12 = .ok (.invokevirtual 254, 3) := by decide +kernel
theorem dX8_wantItem_15 : decode cX8_wantItem 15 = .ok (.goto 25, 3) := by decide +kernel
theorem dX8_wantItem_18 : decode cX8_wantItem 18 = .ok (.aload_n 0, 1) := by decide +kernel
theorem dX8_wantItem_19 : decode cX8_wantItem 19 = .ok (.ldc2_w 258, 3) := by decide +kernel
theorem dX8_wantItem_22 : decode cX8_wantItem 22 = .ok (.invokevirtual 215, 3) := by decide +kernel
theorem dX8_wantItem_25 : decode cX8_wantItem 25 = .ok (.ifCond .eq 10, 3) := by decide +kernel
theorem dX8_wantItem_28 : decode cX8_wantItem 28 = .ok (.aload_n 0, 1) := by decide +kernel
theorem dX8_wantItem_29 : decode cX8_wantItem 29 = .ok (.invokevirtual 260, 3) := by decide +kernel
theorem dX8_wantItem_32 : decode cX8_wantItem 32 = .ok (.goto 8, 3) := by decide +kernel
theorem dX8_wantItem_35 : decode cX8_wantItem 35 = .ok (.aload_n 0, 1) := by decide +kernel
theorem dX8_wantItem_36 : decode cX8_wantItem 36 = .ok (.iconst 0, 1) := by decide +kernel
theorem dX8_wantItem_37 : decode cX8_wantItem 37 = .ok (.putfield 229, 3) := by decide +kernel
theorem dX8_wantItem_40 : decode cX8_wantItem 40 = .ok (.return_, 1) := by decide +kernel
theorem dX8_village_0 : decode cX8_village 0 = .ok (.aload_n 0, 1) := by decide +kernel
theorem dX8_village_1 : decode cX8_village 1 = .ok (.iconst 1, 1) := by decide +kernel
theorem dX8_village_2 : decode cX8_village 2 = .ok (.aload_n 0, 1) := by decide +kernel
theorem dX8_village_3 : decode cX8_village 3 = .ok (.getfield 53, 3) := by decide +kernel
theorem dX8_village_6 : decode cX8_village 6 = .ok (.invokevirtual 161, 3) := by decide +kernel
theorem dX8_village_9 : decode cX8_village 9 = .ok (.aload_n 0, 1) := by decide +kernel
theorem dX8_village_10 : decode cX8_village 10 = .ok (.iconst 0, 1) := by decide +kernel
theorem dX8_village_11 : decode cX8_village 11 = .ok (.putfield 182, 3) := by decide +kernel
theorem dX8_village_14 : decode cX8_village 14 = .ok (.aload_n 0, 1) := by decide +kernel
theorem dX8_village_15 : decode cX8_village 15 = .ok (.iconst 1, 1) := by decide +kernel
theorem dX8_village_16 : decode cX8_village 16 = .ok (.putfield 229, 3) := by decide +kernel
theorem dX8_village_19 : decode cX8_village 19 = .ok (.iconst 0, 1) := by decide +kernel
theorem dX8_village_20 : decode cX8_village 20 = .ok (.istore_n 1, 1) := by decide +kernel
theorem dX8_village_21 : decode cX8_village 21 = .ok (.iconst 1, 1) := by decide +kernel
theorem dX8_village_22 : decode cX8_village 22 = .ok (.istore_n 2, 1) := by decide +kernel
theorem dX8_village_23 : decode cX8_village 23 = .ok (.iload_n 2, 1) := by decide +kernel
theorem dX8_village_24 : decode cX8_village 24 = .ok (.ifCond .eq 47, 3) := by decide +kernel
theorem dX8_village_27 : decode cX8_village 27 = .ok (.aload_n 0, 1) := by decide +kernel
theorem dX8_village_28 : decode cX8_village 28 = .ok (.invokevirtual 233, 3) := by decide +kernel
theorem dX8_village_31 : decode cX8_village 31 = .ok (.aload_n 0, 1) := by decide +kernel
theorem dX8_village_32 : decode cX8_village 32 = .ok (.invokevirtual 263, 3) := by decide +kernel
theorem dX8_village_35 : decode cX8_village 35 = .ok (.iinc 1 1, 3) := by decide +kernel
theorem dX8_village_38 : decode cX8_village 38 = .ok (.aload_n 0, 1) := by decide +kernel
theorem dX8_village_39 : decode cX8_village 39 = .ok (.getfield 229, 3) := by decide +kernel
theorem dX8_village_42 : decode cX8_village 42 = .ok (.ifCond .eq 24, 3) := by decide +kernel
theorem dX8_village_45 : decode cX8_village 45 = .ok (.aload_n 0, 1) := by decide +kernel
theorem dX8_village_46 : decode cX8_village 46 = .ok (.getfield 197, 3) := by decide +kernel
theorem dX8_village_49 : decode cX8_village 49 = .ok (.iconst 3, 1) := by decide +kernel
theorem dX8_village_50 : decode cX8_village 50 = .ok (.if_icmp .ne 16, 3) := by decide +kernel
theorem dX8_village_53 : decode cX8_village 53 = .ok (.aload_n 0, 1) := by decide +kernel
theorem dX8_village_54 : decode cX8_village 54 = .ok (.getfield 204, 3) := by decide +kernel
theorem dX8_village_57 : decode cX8_village 57 = .ok (.bipush 59, 2) := by decide +kernel
theorem dX8_village_59 : decode cX8_village 59 = .ok (.if_icmp .ne 7, 3) := by decide +kernel
theorem dX8_village_62 : decode cX8_village 62 = .ok (.iconst 1, 1) := by decide +kernel
theorem dX8_village_63 : decode cX8_village 63 = .ok (.goto 4, 3) := by decide +kernel
theorem dX8_village_66 : decode cX8_village 66 = .ok (.iconst 0, 1) := by decide +kernel
theorem dX8_village_67 : decode cX8_village 67 = .ok (.istore_n 2, 1) := by decide +kernel
theorem dX8_village_68 : decode cX8_village 68 = .ok (.goto (-45), 3) := by decide +kernel
theorem dX8_village_71 : decode cX8_village 71 = .ok (.aload_n 0, 1) := by decide +kernel
theorem dX8_village_72 : decode cX8_village 72 = .ok (.aload_n 0, 1) := by decide +kernel
theorem dX8_village_73 : decode cX8_village 73 = .ok (.getfield 229, 3) := by decide +kernel
theorem dX8_village_76 : decode cX8_village 76 = .ok (.ifCond .eq 14, 3) := by decide +kernel
theorem dX8_village_79 : decode cX8_village 79 = .ok (.aload_n 0, 1) := by decide +kernel
theorem dX8_village_80 : decode cX8_village 80 = .ok (.getfield 197, 3) := by decide +kernel
theorem dX8_village_83 : decode cX8_village 83 = .ok (.ifCond .ne 7, 3) := by decide +kernel
theorem dX8_village_86 : decode cX8_village 86 = .ok (.iconst 1, 1) := by decide +kernel
theorem dX8_village_87 : decode cX8_village 87 = .ok (.goto 4, 3) := by decide +kernel
theorem dX8_village_90 : decode cX8_village 90 = .ok (.iconst 0, 1) := by decide +kernel
theorem dX8_village_91 : decode cX8_village 91 = .ok (.putfield 229, 3) := by decide +kernel
theorem dX8_village_94 : decode cX8_village 94 = .ok (.aload_n 0, 1) := by decide +kernel
theorem dX8_village_95 : decode cX8_village 95 = .ok (.iconst 0, 1) := by decide +kernel
theorem dX8_village_96 : decode cX8_village 96 = .ok (.putfield 178, 3) := by decide +kernel
theorem dX8_village_99 : decode cX8_village 99 = .ok (.aload_n 0, 1) := by decide +kernel
theorem dX8_village_100 : decode cX8_village 100 = .ok (.getfield 229, 3) := by decide +kernel
theorem dX8_village_103 : decode cX8_village 103 = .ok (.ifCond .ne 19, 3) := by decide +kernel
theorem dX8_village_106 : decode cX8_village 106 = .ok (.aload_n 0, 1) := by decide +kernel
theorem dX8_village_107 : decode cX8_village 107 = .ok (.iconst 0, 1) := by decide +kernel
theorem dX8_village_108 : decode cX8_village 108 = .ok (.aload_n 0, 1) := by decide +kernel
theorem dX8_village_109 : decode cX8_village 109 = .ok (.getfield 53, 3) := by decide +kernel
theorem dX8_village_112 : decode cX8_village 112 = .ok (.invokevirtual 161, 3) := by decide +kernel
theorem dX8_village_115 : decode cX8_village 115 = .ok (.iconst (-1), 1) := by decide +kernel
theorem dX8_village_116 : decode cX8_village 116 = .ok (.aload_n 0, 1) := by decide +kernel
theorem dX8_village_117 : decode cX8_village 117 = .ok (.getfield 185, 3) := by decide +kernel
theorem dX8_village_120 : decode cX8_village 120 = .ok (.isub, 1) := by decide +kernel
theorem dX8_village_121 : decode cX8_village 121 = .ok (.ireturn, 1) := by decide +kernel
theorem dX8_village_122 : decode cX8_village 122 = .ok (.iload_n 1, 1) := by decide +kernel
theorem dX8_village_123 : decode cX8_village 123 = .ok (.ireturn, 1) := by decide +kernel
theorem dX8_isSheet_0 : decode cX8_isSheet 0 = .ok (.iload_n 0, 1) := by decide +kernel
theorem dX8_isSheet_1 : decode cX8_isSheet 1 = .ok (.iconst 0, 1) := by decide +kernel
theorem dX8_isSheet_2 : decode cX8_isSheet 2 = .ok (.iconst 3, 1) := by decide +kernel
theorem dX8_isSheet_3 : decode cX8_isSheet 3 = .ok (.invokestatic 57, 3) := by decide +kernel
theorem dX8_isSheet_6 : decode cX8_isSheet 6 = .ok (.ireturn, 1) := by decide +kernel
theorem dX8_narrow_0 : decode cX8_narrow 0 = .ok (.iload_n 0, 1) := by decide +kernel
theorem dX8_narrow_1 : decode cX8_narrow 1 = .ok (.bipush 8, 2) := by decide +kernel
theorem dX8_narrow_3 : decode cX8_narrow 3 = .ok (.if_icmp .ne 13, 3) := by decide +kernel
theorem dX8_narrow_6 : decode cX8_narrow 6 = .ok (.lload_n 1, 1) := by decide +kernel
theorem dX8_narrow_7 : decode cX8_narrow 7 = .ok (.bipush 56, 2) := by decide +kernel
theorem dX8_narrow_9 : decode cX8_narrow 9 = .ok (.lshl, 1) := by decide +kernel
theorem dX8_narrow_10 : decode cX8_narrow 10 = .ok (.bipush 56, 2) := by decide +kernel
theorem dX8_narrow_12 : decode cX8_narrow 12 = .ok (.lshr, 1) := by decide +kernel
theorem dX8_narrow_13 : decode cX8_narrow 13 = .ok (.goto 20, 3) := by decide +kernel
theorem dX8_narrow_16 : decode cX8_narrow 16 = .ok (.iload_n 0, 1) := by decide +kernel
theorem dX8_narrow_17 : decode cX8_narrow 17 = .ok (.bipush 16, 2) := by decide +kernel
theorem dX8_narrow_19 : decode cX8_narrow 19 = .ok (.if_icmp .ne 13, 3) := by decide +kernel
theorem dX8_narrow_22 : decode cX8_narrow 22 = .ok (.lload_n 1, 1) := by decide +kernel
theorem dX8_narrow_23 : decode cX8_narrow 23 = .ok (.bipush 48, 2) := by decide +kernel
theorem dX8_narrow_25 : decode cX8_narrow 25 = .ok (.lshl, 1) := by decide +kernel
theorem dX8_narrow_26 : decode cX8_narrow 26 = .ok (.bipush 48, 2) := by decide +kernel
theorem dX8_narrow_28 : decode cX8_narrow 28 = .ok (.lshr, 1) := by decide +kernel
theorem dX8_narrow_29 : decode cX8_narrow 29 = .ok (.goto 4, 3) := by decide +kernel
theorem dX8_narrow_32 : decode cX8_narrow 32 = .ok (.lload_n 1, 1) := by decide +kernel
theorem dX8_narrow_33 : decode cX8_narrow 33 = .ok (.lreturn, 1) := by decide +kernel
theorem dX8_sheet_0 : decode cX8_sheet 0 = .ok (.iload_n 1, 1) := by decide +kernel
theorem dX8_sheet_1 : decode cX8_sheet 1 = .ok (.invokestatic 266, 3) := by decide +kernel
theorem dX8_sheet_4 : decode cX8_sheet 4 = .ok (.ifCond .eq 25, 3) := by decide +kernel
theorem dX8_sheet_7 : decode cX8_sheet 7 = .ok (.iload_n 2, 1) := by decide +kernel
theorem dX8_sheet_8 : decode cX8_sheet 8 = .ok (.ifCond .eq 28, 3) := by decide +kernel
theorem dX8_sheet_11 : decode cX8_sheet 11 = .ok (.iload_n 2, 1) := by decide +kernel
theorem dX8_sheet_12 : decode cX8_sheet 12 = .ok (.bipush 8, 2) := by decide +kernel
theorem dX8_sheet_14 : decode cX8_sheet 14 = .ok (.if_icmp .eq 22, 3) := by decide +kernel
theorem dX8_sheet_17 : decode cX8_sheet 17 = .ok (.iload_n 2, 1) := by decide +kernel
theorem dX8_sheet_18 : decode cX8_sheet 18 = .ok (.bipush 16, 2) := by decide +kernel
theorem dX8_sheet_20 : decode cX8_sheet 20 = .ok (.if_icmp .eq 16, 3) := by decide +kernel
theorem dX8_sheet_23 : decode cX8_sheet 23 = .ok (.iload_n 2, 1) := by decide +kernel
theorem dX8_sheet_24 : decode cX8_sheet 24 = .ok (.bipush 64, 2) := by decide +kernel
theorem dX8_sheet_26 : decode cX8_sheet 26 = .ok (.if_icmp .eq 10, 3) := by decide +kernel
theorem dX8_sheet_29 : decode cX8_sheet 29 = .ok (.aload_n 0, 1) := by decide +kernel
theorem dX8_sheet_30 : decode cX8_sheet 30 = .ok (.ldc 56, 2) := by decide +kernel
theorem dX8_sheet_32 : decode cX8_sheet 32 = .ok (.invokevirtual 83, 3) := by decide +kernel
theorem dX8_sheet_35 : decode cX8_sheet 35 = .ok (.ireturn, 1) := by decide +kernel
theorem dX8_sheet_36 : decode cX8_sheet 36 = .ok (.iload_n 3, 1) := by decide +kernel
theorem dX8_sheet_37 : decode cX8_sheet 37 = .ok (.ifCond .ge 11, 3) := by decide +kernel
theorem dX8_sheet_40 : decode cX8_sheet 40 = .ok (.aload_n 0, 1) := by decide +kernel
theorem dX8_sheet_41 : decode cX8_sheet 41 = .ok (.ldc_w 269, 3) := by decide +kernel
theorem dX8_sheet_44 : decode cX8_sheet 44 = .ok (.invokevirtual 83, 3) := by decide +kernel
theorem dX8_sheet_47 : decode cX8_sheet 47 = .ok (.ireturn, 1) := by decide +kernel
theorem dX8_sheet_48 : decode cX8_sheet 48 = .ok (.iload_n 3, 1) := by decide +kernel
theorem dX8_sheet_49 : decode cX8_sheet 49 = .ok (.bipush 40, 2) := by decide +kernel
theorem dX8_sheet_51 : decode cX8_sheet 51 = .ok (.if_icmp .le 10, 3) := by decide +kernel
theorem dX8_sheet_54 : decode cX8_sheet 54 = .ok (.aload_n 0, 1) := by decide +kernel
theorem dX8_sheet_55 : decode cX8_sheet 55 = .ok (.ldc 56, 2) := by decide +kernel
theorem dX8_sheet_57 : decode cX8_sheet 57 = .ok (.invokevirtual 83, 3) := by decide +kernel
theorem dX8_sheet_60 : decode cX8_sheet 60 = .ok (.ireturn, 1) := by decide +kernel
theorem dX8_sheet_61 : decode cX8_sheet 61 = .ok (.aload_n 0, 1) := by decide +kernel
theorem dX8_sheet_62 : decode cX8_sheet 62 = .ok (.getfield 37, 3) := by decide +kernel
theorem dX8_sheet_65 : decode cX8_sheet 65 = .ok (.iload_n 1, 1) := by decide +kernel
theorem dX8_sheet_66 : decode cX8_sheet 66 = .ok (.iload_n 2, 1) := by decide +kernel
theorem dX8_sheet_67 : decode cX8_sheet 67 = .ok (.iastore, 1) := by decide +kernel
theorem dX8_sheet_68 : decode cX8_sheet 68 = .ok (.aload_n 0, 1) := by decide +kernel
theorem dX8_sheet_69 : decode cX8_sheet 69 = .ok (.getfield 40, 3) := by decide +kernel
theorem dX8_sheet_72 : decode cX8_sheet 72 = .ok (.iload_n 1, 1) := by decide +kernel
theorem dX8_sheet_73 : decode cX8_sheet 73 = .ok (.iload_n 2, 1) := by decide +kernel
theorem dX8_sheet_74 : decode cX8_sheet 74 = .ok (.ifCond .ne 7, 3) := by decide +kernel
theorem dX8_sheet_77 : decode cX8_sheet 77 = .ok (.iconst 0, 1) := by decide +kernel
theorem dX8_sheet_78 : decode cX8_sheet 78 = .ok (.goto 4, 3) := by decide +kernel
theorem dX8_sheet_81 : decode cX8_sheet 81 = .ok (.iload_n 3, 1) := by decide +kernel
theorem dX8_sheet_82 : decode cX8_sheet 82 = .ok (.iastore, 1) := by decide +kernel
theorem dX8_sheet_83 : decode cX8_sheet 83 = .ok (.iconst 0, 1) := by decide +kernel
theorem dX8_sheet_84 : decode cX8_sheet 84 = .ok (.istore 4, 2) := by decide +kernel
theorem dX8_sheet_86 : decode cX8_sheet 86 = .ok (.iload 4, 2) := by decide +kernel
theorem dX8_sheet_88 : decode cX8_sheet 88 = .ok (.bipush 40, 2) := by decide +kernel
theorem dX8_sheet_90 : decode cX8_sheet 90 = .ok (.if_icmp .ge 22, 3) := by decide +kernel
theorem dX8_sheet_93 : decode cX8_sheet 93 = .ok (.aload_n 0, 1) := by decide +kernel
theorem dX8_sheet_94 : decode cX8_sheet 94 = .ok (.getfield 43, 3) := by decide +kernel
theorem dX8_sheet_97 : decode cX8_sheet 97 = .ok (.bipush 40, 2) := by decide +kernel
theorem dX8_sheet_99 : decode cX8_sheet 99 = .ok (.iload_n 1, 1) := by decide +kernel
theorem dX8_sheet_100 : decode cX8_sheet 100 = .ok (.imul, 1) := by decide +kernel
theorem dX8_sheet_101 : decode cX8_sheet 101 = .ok (.iload 4, 2) := by decide +kernel
theorem dX8_sheet_103 : decode cX8_sheet 103 = .ok (.iadd, 1) := by decide +kernel
theorem dX8_sheet_104 : decode cX8_sheet 104 = .ok (.lconst 0, 1) := by decide +kernel
theorem dX8_sheet_105 : decode cX8_sheet 105 = .ok (.lastore, 1) := by decide +kernel
theorem dX8_sheet_106 : decode cX8_sheet 106 = .ok (.iinc 4 1, 3) := by decide +kernel
theorem dX8_sheet_109 : decode cX8_sheet 109 = .ok (.goto (-23), 3) := by decide +kernel
theorem dX8_sheet_112 : decode cX8_sheet 112 = .ok (.aload_n 0, 1) := by decide +kernel
theorem dX8_sheet_113 : decode cX8_sheet 113 = .ok (.getfield 40, 3) := by decide +kernel
theorem dX8_sheet_116 : decode cX8_sheet 116 = .ok (.iload_n 1, 1) := by decide +kernel
theorem dX8_sheet_117 : decode cX8_sheet 117 = .ok (.iaload, 1) := by decide +kernel
theorem dX8_sheet_118 : decode cX8_sheet 118 = .ok (.ireturn, 1) := by decide +kernel
theorem dX8_write_0 : decode cX8_write 0 = .ok (.iload_n 1, 1) := by decide +kernel
theorem dX8_write_1 : decode cX8_write 1 = .ok (.invokestatic 266, 3) := by decide +kernel
theorem dX8_write_4 : decode cX8_write 4 = .ok (.ifCond .ne 11, 3) := by decide +kernel
theorem dX8_write_7 : decode cX8_write 7 = .ok (.aload_n 0, 1) := by decide +kernel
theorem dX8_write_8 : decode cX8_write 8 = .ok (.ldc 56, 2) := by decide +kernel
theorem dX8_write_10 : decode cX8_write 10 = .ok (.invokevirtual 83, 3) := by decide +kernel
theorem dX8_write_13 : decode cX8_write 13 = .ok (.i2l, 1) := by decide +kernel
theorem dX8_write_14 : decode cX8_write 14 = .ok (.lreturn, 1) := by decide +kernel
theorem dX8_write_15 : decode cX8_write 15 = .ok (.aload_n 0, 1) := by decide +kernel
theorem dX8_write_16 : decode cX8_write 16 = .ok (.getfield 37, 3) := by decide +kernel
theorem dX8_write_19 : decode cX8_write 19 = .ok (.iload_n 1, 1) := by decide +kernel
theorem dX8_write_20 : decode cX8_write 20 = .ok (.iaload, 1) := by decide +kernel
theorem dX8_write_21 : decode cX8_write 21 = .ok (.ifCond .ne 12, 3) := by decide +kernel
theorem dX8_write_24 : decode cX8_write 24 = .ok (.aload_n 0, 1) := by decide +kernel
theorem dX8_write_25 : decode cX8_write 25 = .ok (.ldc_w 270, 3) := by decide +kernel
theorem dX8_write_28 : decode cX8_write 28 = .ok (.invokevirtual 83, 3) := by decide +kernel
theorem dX8_write_31 : decode cX8_write 31 = .ok (.i2l, 1) := by decide +kernel
theorem dX8_write_32 : decode cX8_write 32 = .ok (.lreturn, 1) := by decide +kernel
theorem dX8_write_33 : decode cX8_write 33 = .ok (.iload_n 2, 1) := by decide +kernel
theorem dX8_write_34 : decode cX8_write 34 = .ok (.iconst 0, 1) := by decide +kernel
theorem dX8_write_35 : decode cX8_write 35 = .ok (.aload_n 0, 1) := by decide +kernel
theorem dX8_write_36 : decode cX8_write 36 = .ok (.getfield 40, 3) := by decide +kernel
theorem dX8_write_39 : decode cX8_write 39 = .ok (.iload_n 1, 1) := by decide +kernel
theorem dX8_write_40 : decode cX8_write 40 = .ok (.iaload, 1) := by decide +kernel
theorem dX8_write_41 : decode cX8_write 41 = .ok (.iconst 1, 1) := by decide +kernel
theorem dX8_write_42 : decode cX8_write 42 = .ok (.isub, 1) := by decide +kernel
theorem dX8_write_43 : decode cX8_write 43 = .ok (.invokestatic 57, 3) := by decide +kernel
theorem dX8_write_46 : decode cX8_write 46 = .ok (.ifCond .ne 11, 3) := by decide +kernel
theorem dX8_write_49 : decode cX8_write 49 = .ok (.aload_n 0, 1) := by decide +kernel
theorem dX8_write_50 : decode cX8_write 50 = .ok (.ldc 56, 2) := by decide +kernel
theorem dX8_write_52 : decode cX8_write 52 = .ok (.invokevirtual 83, 3) := by decide +kernel
theorem dX8_write_55 : decode cX8_write 55 = .ok (.i2l, 1) := by decide +kernel
theorem dX8_write_56 : decode cX8_write 56 = .ok (.lreturn, 1) := by decide +kernel
theorem dX8_write_57 : decode cX8_write 57 = .ok (.aload_n 0, 1) := by decide +kernel
theorem dX8_write_58 : decode cX8_write 58 = .ok (.getfield 43, 3) := by decide +kernel
theorem dX8_write_61 : decode cX8_write 61 = .ok (.bipush 40, 2) := by decide +kernel
theorem dX8_write_63 : decode cX8_write 63 = .ok (.iload_n 1, 1) := by decide +kernel
theorem dX8_write_64 : decode cX8_write 64 = .ok (.imul, 1) := by decide +kernel
theorem dX8_write_65 : decode cX8_write 65 = .ok (.iload_n 2, 1) := by decide +kernel
theorem dX8_write_66 : decode cX8_write 66 = .ok (.iadd, 1) := by decide +kernel
theorem dX8_write_67 : decode cX8_write 67 = .ok (.laload, 1) := by decide +kernel
theorem dX8_write_68 : decode cX8_write 68 = .ok (.lstore 5, 2) := by decide +kernel
theorem dX8_write_70 : decode cX8_write 70 = .ok (.aload_n 0, 1) := by decide +kernel
theorem dX8_write_71 : decode cX8_write 71 = .ok (.getfield 43, 3) := by decide +kernel
theorem dX8_write_74 : decode cX8_write 74 = .ok (.bipush 40, 2) := by decide +kernel
theorem dX8_write_76 : decode cX8_write 76 = .ok (.iload_n 1, 1) := by decide +kernel
theorem dX8_write_77 : decode cX8_write 77 = .ok (.imul, 1) := by decide +kernel
theorem dX8_write_78 : decode cX8_write 78 = .ok (.iload_n 2, 1) := by decide +kernel
theorem dX8_write_79 : decode cX8_write 79 = .ok (.iadd, 1) := by decide +kernel
theorem dX8_write_80 : decode cX8_write 80 = .ok (.aload_n 0, 1) := by decide +kernel
theorem dX8_write_81 : decode cX8_write 81 = .ok (.getfield 37, 3) := by decide +kernel
theorem dX8_write_84 : decode cX8_write 84 = .ok (.iload_n 1, 1) := by decide +kernel
theorem dX8_write_85 : decode cX8_write 85 = .ok (.iaload, 1) := by decide +kernel
theorem dX8_write_86 : decode cX8_write 86 = .ok (.lload_n 3, 1) := by decide +kernel
theorem dX8_write_87 : decode cX8_write 87 = .ok (.invokestatic 271, 3) := by decide +kernel
theorem dX8_write_90 : decode cX8_write 90 = .ok (.lastore, 1) := by decide +kernel
theorem dX8_write_91 : decode cX8_write 91 = .ok (.lload 5, 2) := by decide +kernel
theorem dX8_write_93 : decode cX8_write 93 = .ok (.lreturn, 1) := by decide +kernel
theorem dX8_isPart_0 : decode cX8_isPart 0 = .ok (.iload_n 2, 1) := by decide +kernel
theorem dX8_isPart_1 : decode cX8_isPart 1 = .ok (.ifCond .lt 33, 3) := by decide +kernel
theorem dX8_isPart_4 : decode cX8_isPart 4 = .ok (.iload_n 3, 1) := by decide +kernel
theorem dX8_isPart_5 : decode cX8_isPart 5 = .ok (.ifCond .lt 29, 3) := by decide +kernel
theorem dX8_isPart_8 : decode cX8_isPart 8 = .ok (.iload_n 3, 1) := by decide +kernel
theorem dX8_isPart_9 : decode cX8_isPart 9 = .ok (.aload_n 0, 1) := by decide +kernel
theorem dX8_isPart_10 : decode cX8_isPart 10 = .ok (.getfield 40, 3) := by decide +kernel
theorem dX8_isPart_13 : decode cX8_isPart 13 = .ok (.iload_n 1, 1) := by decide +kernel
theorem dX8_isPart_14 : decode cX8_isPart 14 = .ok (.iaload, 1) := by decide +kernel
theorem dX8_isPart_15 : decode cX8_isPart 15 = .ok (.if_icmp .gt 19, 3) := by decide +kernel
theorem dX8_isPart_18 : decode cX8_isPart 18 = .ok (.iload_n 2, 1) := by decide +kernel
theorem dX8_isPart_19 : decode cX8_isPart 19 = .ok (.aload_n 0, 1) := by decide +kernel
theorem dX8_isPart_20 : decode cX8_isPart 20 = .ok (.getfield 40, 3) := by decide +kernel
theorem dX8_isPart_23 : decode cX8_isPart 23 = .ok (.iload_n 1, 1) := by decide +kernel
theorem dX8_isPart_24 : decode cX8_isPart 24 = .ok (.iaload, 1) := by decide +kernel
theorem dX8_isPart_25 : decode cX8_isPart 25 = .ok (.iload_n 3, 1) := by decide +kernel
theorem dX8_isPart_26 : decode cX8_isPart 26 = .ok (.isub, 1) := by decide +kernel
theorem dX8_isPart_27 : decode cX8_isPart 27 = .ok (.if_icmp .gt 7, 3) := by decide +kernel
theorem dX8_isPart_30 : decode cX8_isPart 30 = .ok (.iconst 1, 1) := by decide +kernel
theorem dX8_isPart_31 : decode cX8_isPart 31 = .ok (.goto 4, 3) := by decide +kernel
theorem dX8_isPart_34 : decode cX8_isPart 34 = .ok (.iconst 0, 1) := by decide +kernel
theorem dX8_isPart_35 : decode cX8_isPart 35 = .ok (.ireturn, 1) := by decide +kernel
theorem dX8_copy_0 : decode cX8_copy 0 = .ok (.iload_n 1, 1) := by decide +kernel
theorem dX8_copy_1 : decode cX8_copy 1 = .ok (.invokestatic 266, 3) := by decide +kernel
theorem dX8_copy_4 : decode cX8_copy 4 = .ok (.ifCond .eq 10, 3) := by decide +kernel
theorem dX8_copy_7 : decode cX8_copy 7 = .ok (.iload_n 3, 1) := by decide +kernel
theorem dX8_copy_8 : decode cX8_copy 8 = .ok (.invokestatic 266, 3) := by decide +kernel
theorem dX8_copy_11 : decode cX8_copy 11 = .ok (.ifCond .ne 10, 3) := by decide +kernel
theorem dX8_copy_14 : decode cX8_copy 14 = .ok (.aload_n 0, 1) := by decide +kernel
theorem dX8_copy_15 : decode cX8_copy 15 = .ok (.ldc 56, 2) := by decide +kernel
theorem dX8_copy_17 : decode cX8_copy 17 = .ok (.invokevirtual 83, 3) := by decide +kernel
theorem dX8_copy_20 : decode cX8_copy 20 = .ok (.ireturn, 1) := by decide +kernel
theorem dX8_copy_21 : decode cX8_copy 21 = .ok (.aload_n 0, 1) := by decide +kernel
theorem dX8_copy_22 : decode cX8_copy 22 = .ok (.getfield 37, 3) := by decide +kernel
theorem dX8_copy_25 : decode cX8_copy 25 = .ok (.iload_n 1, 1) := by decide +kernel
theorem dX8_copy_26 : decode cX8_copy 26 = .ok (.iaload, 1) := by decide +kernel
theorem dX8_copy_27 : decode cX8_copy 27 = .ok (.ifCond .eq 12, 3) := by decide +kernel
theorem dX8_copy_30 : decode cX8_copy 30 = .ok (.aload_n 0, 1) := by decide +kernel
theorem dX8_copy_31 : decode cX8_copy 31 = .ok (.getfield 37, 3) := by decide +kernel
theorem dX8_copy_34 : decode cX8_copy 34 = .ok (.iload_n 3, 1) := by decide +kernel
theorem dX8_copy_35 : decode cX8_copy 35 = .ok (.iaload, 1) := by decide +kernel
theorem dX8_copy_36 : decode cX8_copy 36 = .ok (.ifCond .ne 11, 3) := by decide +kernel
theorem dX8_copy_39 : decode cX8_copy 39 = .ok (.aload_n 0, 1) := by decide +kernel
theorem dX8_copy_40 : decode cX8_copy 40 = .ok (.ldc_w 270, 3) := by decide +kernel
theorem dX8_copy_43 : decode cX8_copy 43 = .ok (.invokevirtual 83, 3) := by decide +kernel
theorem dX8_copy_46 : decode cX8_copy 46 = .ok (.ireturn, 1) := by decide +kernel
theorem dX8_copy_47 : decode cX8_copy 47 = .ok (.aload_n 0, 1) := by decide +kernel
theorem dX8_copy_48 : decode cX8_copy 48 = .ok (.getfield 37, 3) := by decide +kernel
theorem dX8_copy_51 : decode cX8_copy 51 = .ok (.iload_n 1, 1) := by decide +kernel
theorem dX8_copy_52 : decode cX8_copy 52 = .ok (.iaload, 1) := by decide +kernel
theorem dX8_copy_53 : decode cX8_copy 53 = .ok (.aload_n 0, 1) := by decide +kernel
theorem dX8_copy_54 : decode cX8_copy 54 = .ok (.getfield 37, 3) := by decide +kernel
theorem dX8_copy_57 : decode cX8_copy 57 = .ok (.iload_n 3, 1) := by decide +kernel
theorem dX8_copy_58 : decode cX8_copy 58 = .ok (.iaload, 1) := by decide +kernel
theorem dX8_copy_59 : decode cX8_copy 59 = .ok (.if_icmp .eq 10, 3) := by decide +kernel
theorem dX8_copy_62 : decode cX8_copy 62 = .ok (.aload_n 0, 1) := by decide +kernel
theorem dX8_copy_63 : decode cX8_copy 63 = .ok (.ldc 101, 2) := by decide +kernel
theorem dX8_copy_65 : decode cX8_copy 65 = .ok (.invokevirtual 83, 3) := by decide +kernel
theorem dX8_copy_68 : decode cX8_copy 68 = .ok (.ireturn, 1) := by decide +kernel
theorem dX8_copy_69 : decode cX8_copy 69 = .ok (.aload_n 0, 1) := by decide +kernel
theorem dX8_copy_70 : decode cX8_copy 70 = .ok (.iload_n 1, 1) := by decide +kernel
theorem dX8_copy_71 : decode cX8_copy 71 = .ok (.iload_n 2, 1) := by decide +kernel
theorem dX8_copy_72 : decode cX8_copy 72 = .ok (.iload 5, 2) := by decide +kernel
theorem dX8_copy_74 : decode cX8_copy 74 = .ok (.invokevirtual 275, 3) := by decide +kernel
theorem dX8_copy_77 : decode cX8_copy 77 = .ok (.ifCond .eq 15, 3) := by decide +kernel
theorem dX8_copy_80 : decode cX8_copy 80 = .ok (.aload_n 0, 1) := by decide +kernel
theorem dX8_copy_81 : decode cX8_copy 81 = .ok (.iload_n 3, 1) := by decide +kernel
theorem dX8_copy_82 : decode cX8_copy 82 = .ok (.iload 4, 2) := by decide +kernel
theorem dX8_copy_84 : decode cX8_copy 84 = .ok (.iload 5, 2) := by decide +kernel
theorem dX8_copy_86 : decode cX8_copy 86 = .ok (.invokevirtual 275, 3) := by decide +kernel
theorem dX8_copy_89 : decode cX8_copy 89 = .ok (.ifCond .ne 10, 3) := by decide +kernel
theorem dX8_copy_92 : decode cX8_copy 92 = .ok (.aload_n 0, 1) := by decide +kernel
theorem dX8_copy_93 : decode cX8_copy 93 = .ok (.ldc 56, 2) := by decide +kernel
theorem dX8_copy_95 : decode cX8_copy 95 = .ok (.invokevirtual 83, 3) := by decide +kernel
theorem dX8_copy_98 : decode cX8_copy 98 = .ok (.ireturn, 1) := by decide +kernel
theorem dX8_copy_99 : decode cX8_copy 99 = .ok (.iconst 0, 1) := by decide +kernel
theorem dX8_copy_100 : decode cX8_copy 100 = .ok (.istore 6, 2) := by decide +kernel
theorem dX8_copy_102 : decode cX8_copy 102 = .ok (.iload 6, 2) := by decide +kernel
theorem dX8_copy_104 : decode cX8_copy 104 = .ok (.iload 5, 2) := by decide +kernel
theorem dX8_copy_106 : decode cX8_copy 106 = .ok (.if_icmp .ge 30, 3) := by decide +kernel
theorem dX8_copy_109 : decode cX8_copy 109 = .ok (.aload_n 0, 1) := by decide +kernel
theorem dX8_copy_110 : decode cX8_copy 110 = .ok (.getfield 47, 3) := by decide +kernel
theorem dX8_copy_113 : decode cX8_copy 113 = .ok (.iload 6, 2) := by decide +kernel
theorem dX8_copy_115 : decode cX8_copy 115 = .ok (.aload_n 0, 1) := by decide +kernel
theorem dX8_copy_116 : decode cX8_copy 116 = .ok (.getfield 43, 3) := by decide +kernel
theorem dX8_copy_119 : decode cX8_copy 119 = .ok (.bipush 40, 2) := by decide +kernel
theorem dX8_copy_121 : decode cX8_copy 121 = .ok (.iload_n 1, 1) := by decide +kernel
theorem dX8_copy_122 : decode cX8_copy 122 = .ok (.imul, 1) := by decide +kernel
theorem dX8_copy_123 : decode cX8_copy 123 = .ok (.iload_n 2, 1) := by decide +kernel
theorem dX8_copy_124 : decode cX8_copy 124 = .ok (.iadd, 1) := by decide +kernel
theorem dX8_copy_125 : decode cX8_copy 125 = .ok (.iload 6, 2) := by decide +kernel
theorem dX8_copy_127 : decode cX8_copy 127 = .ok (.iadd, 1) := by decide +kernel
theorem dX8_copy_128 : decode cX8_copy 128 = .ok (.laload, 1) := by decide +kernel
theorem dX8_copy_129 : decode cX8_copy 129 = .ok (.lastore, 1) := by decide +kernel
theorem dX8_copy_130 : decode cX8_copy 130 = .ok (.iinc 6 1, 3) := by decide +kernel
theorem dX8_copy_133 : decode cX8_copy 133 = .ok (.goto (-31), 3) := by decide +kernel
theorem dX8_copy_136 : decode cX8_copy 136 = .ok (.iconst 0, 1) := by decide +kernel
theorem dX8_copy_137 : decode cX8_copy 137 = .ok (.istore 6, 2) := by decide +kernel
theorem dX8_copy_139 : decode cX8_copy 139 = .ok (.iload 6, 2) := by decide +kernel
theorem dX8_copy_141 : decode cX8_copy 141 = .ok (.iload 5, 2) := by decide +kernel
theorem dX8_copy_143 : decode cX8_copy 143 = .ok (.if_icmp .ge 31, 3) := by decide +kernel
theorem dX8_copy_146 : decode cX8_copy 146 = .ok (.aload_n 0, 1) := by decide +kernel
theorem dX8_copy_147 : decode cX8_copy 147 = .ok (.getfield 43, 3) := by decide +kernel
theorem dX8_copy_150 : decode cX8_copy 150 = .ok (.bipush 40, 2) := by decide +kernel
theorem dX8_copy_152 : decode cX8_copy 152 = .ok (.iload_n 3, 1) := by decide +kernel
theorem dX8_copy_153 : decode cX8_copy 153 = .ok (.imul, 1) := by decide +kernel
theorem dX8_copy_154 : decode cX8_copy 154 = .ok (.iload 4, 2) := by decide +kernel
theorem dX8_copy_156 : decode cX8_copy 156 = .ok (.iadd, 1) := by decide +kernel
theorem dX8_copy_157 : decode cX8_copy 157 = .ok (.iload 6, 2) := by decide +kernel
theorem dX8_copy_159 : decode cX8_copy 159 = .ok (.iadd, 1) := by decide +kernel
theorem dX8_copy_160 : decode cX8_copy 160 = .ok (.aload_n 0, 1) := by decide +kernel
theorem dX8_copy_161 : decode cX8_copy 161 = .ok (.getfield 47, 3) := by decide +kernel
theorem dX8_copy_164 : decode cX8_copy 164 = .ok (.iload 6, 2) := by decide +kernel
theorem dX8_copy_166 : decode cX8_copy 166 = .ok (.laload, 1) := by decide +kernel
theorem dX8_copy_167 : decode cX8_copy 167 = .ok (.lastore, 1) := by decide +kernel
theorem dX8_copy_168 : decode cX8_copy 168 = .ok (.iinc 6 1, 3) := by decide +kernel
theorem dX8_copy_171 : decode cX8_copy 171 = .ok (.goto (-32), 3) := by decide +kernel
theorem dX8_copy_174 : decode cX8_copy 174 = .ok (.iload 5, 2) := by decide +kernel
theorem dX8_copy_176 : decode cX8_copy 176 = .ok (.ireturn, 1) := by decide +kernel
theorem dX8_badSheet_0 : decode cX8_badSheet 0 = .ok (.iload_n 1, 1) := by decide +kernel
theorem dX8_badSheet_1 : decode cX8_badSheet 1 = .ok (.invokestatic 266, 3) := by decide +kernel
theorem dX8_badSheet_4 : decode cX8_badSheet 4 = .ok (.ifCond .ne 8, 3) := by decide +kernel
theorem dX8_badSheet_7 : decode cX8_badSheet 7 = .ok (.ldc 56, 2) := by decide +kernel
theorem dX8_badSheet_9 : decode cX8_badSheet 9 = .ok (.goto 19, 3) := by decide +kernel
theorem dX8_badSheet_12 : decode cX8_badSheet 12 = .ok (.aload_n 0, 1) := by decide +kernel
theorem dX8_badSheet_13 : decode cX8_badSheet 13 = .ok (.getfield 37, 3) := by decide +kernel
theorem dX8_badSheet_16 : decode cX8_badSheet 16 = .ok (.iload_n 1, 1) := by decide +kernel
theorem dX8_badSheet_17 : decode cX8_badSheet 17 = .ok (.iaload, 1) := by decide +kernel
theorem dX8_badSheet_18 : decode cX8_badSheet 18 = .ok (.ifCond .ne 9, 3) := by decide +kernel
theorem dX8_badSheet_21 : decode cX8_badSheet 21 = .ok (.ldc_w 270, 3) := by decide +kernel
theorem dX8_badSheet_24 : decode cX8_badSheet 24 = .ok (.goto 4, 3) := by decide +kernel
theorem dX8_badSheet_27 : decode cX8_badSheet 27 = .ok (.iconst 0, 1) := by decide +kernel
theorem dX8_badSheet_28 : decode cX8_badSheet 28 = .ok (.ireturn, 1) := by decide +kernel
theorem dX8_lays_0 : decode cX8_lays 0 = .ok (.aload_n 0, 1) := by decide +kernel
theorem dX8_lays_1 : decode cX8_lays 1 = .ok (.iload_n 1, 1) := by decide +kernel
theorem dX8_lays_2 : decode cX8_lays 2 = .ok (.invokevirtual 278, 3) := by decide +kernel
theorem dX8_lays_5 : decode cX8_lays 5 = .ok (.istore_n 2, 1) := by decide +kernel
theorem dX8_lays_6 : decode cX8_lays 6 = .ok (.iload_n 2, 1) := by decide +kernel
theorem dX8_lays_7 : decode cX8_lays 7 = .ok (.ifCond .eq 9, 3) := by decide +kernel
theorem dX8_lays_10 : decode cX8_lays 10 = .ok (.aload_n 0, 1) := by decide +kernel
theorem dX8_lays_11 : decode cX8_lays 11 = .ok (.iload_n 2, 1) := by decide +kernel
theorem dX8_lays_12 : decode cX8_lays 12 = .ok (.invokevirtual 83, 3) := by decide +kernel
theorem dX8_lays_15 : decode cX8_lays 15 = .ok (.ireturn, 1) := by decide +kernel
theorem dX8_lays_16 : decode cX8_lays 16 = .ok (.aload_n 0, 1) := by decide +kernel
theorem dX8_lays_17 : decode cX8_lays 17 = .ok (.getfield 7, 3) := by decide +kernel
theorem dX8_lays_20 : decode cX8_lays 20 = .ok (.iconst 2, 1) := by decide +kernel
theorem dX8_lays_21 : decode cX8_lays 21 = .ok (.iaload, 1) := by decide +kernel
theorem dX8_lays_22 : decode cX8_lays 22 = .ok (.istore_n 3, 1) := by decide +kernel
theorem dX8_lays_23 : decode cX8_lays 23 = .ok (.aload_n 0, 1) := by decide +kernel
theorem dX8_lays_24 : decode cX8_lays 24 = .ok (.getfield 40, 3) := by decide +kernel
theorem dX8_lays_27 : decode cX8_lays 27 = .ok (.iload_n 1, 1) := by decide +kernel
theorem dX8_lays_28 : decode cX8_lays 28 = .ok (.iaload, 1) := by decide +kernel
theorem dX8_lays_29 : decode cX8_lays 29 = .ok (.iload_n 3, 1) := by decide +kernel
theorem dX8_lays_30 : decode cX8_lays 30 = .ok (.if_icmp .eq 11, 3) := by decide +kernel
theorem dX8_lays_33 : decode cX8_lays 33 = .ok (.aload_n 0, 1) := by decide +kernel
theorem dX8_lays_34 : decode cX8_lays 34 = .ok (.ldc_w 269, 3) := by decide +kernel
theorem dX8_lays_37 : decode cX8_lays 37 = .ok (.invokevirtual 83, 3) := by decide +kernel
theorem dX8_lays_40 : decode cX8_lays 40 = .ok (.ireturn, 1) := by decide +kernel
theorem dX8_lays_41 : decode cX8_lays 41 = .ok (.iconst 0, 1) := by decide +kernel
theorem dX8_lays_42 : decode cX8_lays 42 = .ok (.istore 4, 2) := by decide +kernel
theorem dX8_lays_44 : decode cX8_lays 44 = .ok (.iconst 1, 1) := by decide +kernel
theorem dX8_lays_45 : decode cX8_lays 45 = .ok (.istore 5, 2) := by decide +kernel
theorem dX8_lays_47 : decode cX8_lays 47 = .ok (.iconst 0, 1) := by decide +kernel
theorem dX8_lays_48 : decode cX8_lays 48 = .ok (.istore 6, 2) := by decide +kernel
theorem dX8_lays_50 : decode cX8_lays 50 = .ok (.iload 6, 2) := by decide +kernel
theorem dX8_lays_52 : decode cX8_lays 52 = .ok (.iload_n 3, 1) := by decide +kernel
theorem dX8_lays_53 : decode cX8_lays 53 = .ok (.if_icmp .ge 103, 3) := by decide +kernel
theorem dX8_lays_56 : decode cX8_lays 56 = .ok (.iload 5, 2) := by decide +kernel
theorem dX8_lays_58 : decode cX8_lays 58 = .ok (.ifCond .eq 98, 3) := by decide +kernel
theorem dX8_lays_61 : decode cX8_lays 61 = .ok (.aload_n 0, 1) := by decide +kernel
theorem dX8_lays_62 : decode cX8_lays 62 = .ok (.getfield 43, 3) := by decide +kernel
theorem dX8_lays_65 : decode cX8_lays 65 = .ok (.bipush 40, 2) := by decide +kernel
theorem dX8_lays_67 : decode cX8_lays 67 = .ok (.iload_n 1, 1) := by decide +kernel
theorem dX8_lays_68 : decode cX8_lays 68 = .ok (.imul, 1) := by decide +kernel
theorem dX8_lays_69 : decode cX8_lays 69 = .ok (.iload 6, 2) := by decide +kernel
theorem dX8_lays_71 : decode cX8_lays 71 = .ok (.iadd, 1) := by decide +kernel
theorem dX8_lays_72 : decode cX8_lays 72 = .ok (.laload, 1) := by decide +kernel
theorem dX8_lays_73 : decode cX8_lays 73 = .ok (.lstore 7, 2) := by decide +kernel
theorem dX8_lays_75 : decode cX8_lays 75 = .ok (.lload 7, 2) := by decide +kernel
theorem dX8_lays_77 : decode cX8_lays 77 = .ok (.lconst 0, 1) := by decide +kernel
theorem dX8_lays_78 : decode cX8_lays 78 = .ok (.lcmp, 1) := by decide +kernel
theorem dX8_lays_79 : decode cX8_lays 79 = .ok (.ifCond .lt 17, 3) := by decide +kernel
theorem dX8_lays_82 : decode cX8_lays 82 = .ok (.lload 7, 2) := by decide +kernel
theorem dX8_lays_84 : decode cX8_lays 84 = .ok (.iload_n 3, 1) := by decide +kernel
theorem dX8_lays_85 : decode cX8_lays 85 = .ok (.i2l, 1) := by decide +kernel
theorem dX8_lays_86 : decode cX8_lays 86 = .ok (.lcmp, 1) := by decide +kernel
theorem dX8_lays_87 : decode cX8_lays 87 = .ok (.ifCond .ge 9, 3) := by decide +kernel
theorem dX8_lays_90 : decode cX8_lays 90 = .ok (.lload 7, 2) := by decide +kernel
theorem dX8_lays_92 : decode cX8_lays 92 = .ok (.l2i, 1) := by decide +kernel
theorem dX8_lays_93 : decode cX8_lays 93 = .ok (.goto 4, 3) := by decide +kernel
theorem dX8_lays_96 : decode cX8_lays 96 = .ok (.iconst (-1), 1) := by decide +kernel
theorem dX8_lays_97 : decode cX8_lays 97 = .ok (.istore 9, 2) := by decide +kernel
theorem dX8_lays_99 : decode cX8_lays 99 = .ok (.iload 9, 2) := by decide +kernel
theorem dX8_lays_101 : decode cX8_lays 101 = .ok (.ifCond .lt 28, 3) := by decide +kernel
theorem dX8_lays_104 : decode cX8_lays 104 = .ok (.iload 4, 2) := by decide +kernel
theorem dX8_lays_106 : decode cX8_lays 106 = .ok (.iload 9, 2) := by decide +kernel
theorem dX8_lays_108 : decode cX8_lays 108 = .ok (.ishr, 1) := by decide +kernel
theorem dX8_lays_109 : decode cX8_lays 109 = .ok (.iconst 1, 1) := by decide +kernel
theorem dX8_lays_110 : decode cX8_lays 110 = .ok (.iand, 1) := by decide +kernel
theorem dX8_lays_111 : decode cX8_lays 111 = .ok (.ifCond .ne 18, 3) := by decide +kernel
theorem dX8_lays_114 : decode cX8_lays 114 = .ok (.aload_n 0, 1) := by decide +kernel
theorem dX8_lays_115 : decode cX8_lays 115 = .ok (.iload 6, 2) := by decide +kernel
theorem dX8_lays_117 : decode cX8_lays 117 = .ok (.iload 9, 2) := by decide +kernel
theorem dX8_lays_119 : decode cX8_lays 119 = .ok (.invokevirtual 102, 3) := by decide +kernel
theorem dX8_lays_122 : decode cX8_lays 122 = .ok (.ifCond .eq 7, 3) := by decide +kernel
theorem dX8_lays_125 : decode cX8_lays 125 = .ok (.iconst 1, 1) := by decide +kernel
theorem dX8_lays_126 : decode cX8_lays 126 = .ok (.goto 4, 3) := by decide +kernel
theorem dX8_lays_129 : decode cX8_lays 129 = .ok (.iconst 0, 1) := by decide +kernel
theorem dX8_lays_130 : decode cX8_lays 130 = .ok (.istore 5, 2) := by decide +kernel
theorem dX8_lays_132 : decode cX8_lays 132 = .ok (.iload 4, 2) := by decide +kernel
theorem dX8_lays_134 : decode cX8_lays 134 = .ok (.iload 5, 2) := by decide +kernel
theorem dX8_lays_136 : decode cX8_lays 136 = .ok (.ifCond .eq 10, 3) := by decide +kernel
theorem dX8_lays_139 : decode cX8_lays 139 = .ok (.iconst 1, 1) := by decide +kernel
theorem dX8_lays_140 : decode cX8_lays 140 = .ok (.iload 9, 2) := by decide +kernel
theorem dX8_lays_142 : decode cX8_lays 142 = .ok (.ishl, 1) := by decide +kernel
theorem dX8_lays_143 : decode cX8_lays 143 = .ok (.goto 4, 3) := by decide +kernel
theorem dX8_lays_146 : decode cX8_lays 146 = .ok (.iconst 0, 1) := by decide +kernel
theorem dX8_lays_147 : decode cX8_lays 147 = .ok (.ior, 1) := by decide +kernel
theorem dX8_lays_148 : decode cX8_lays 148 = .ok (.istore 4, 2) := by decide +kernel
theorem dX8_lays_150 : decode cX8_lays 150 = .ok (.iinc 6 1, 3) := by decide +kernel
theorem dX8_lays_153 : decode cX8_lays 153 = .ok (.goto (-103), 3) := by decide +kernel
theorem dX8_lays_156 : decode cX8_lays 156 = .ok (.iload 5, 2) := by decide +kernel
theorem dX8_lays_158 : decode cX8_lays 158 = .ok (.ifCond .ne 10, 3) := by decide +kernel
theorem dX8_lays_161 : decode cX8_lays 161 = .ok (.aload_n 0, 1) := by decide +kernel
theorem dX8_lays_162 : decode cX8_lays 162 = .ok (.ldc 106, 2) := by decide +kernel
theorem dX8_lays_164 : decode cX8_lays 164 = .ok (.invokevirtual 83, 3) := by decide +kernel
theorem dX8_lays_167 : decode cX8_lays 167 = .ok (.ireturn, 1) := by decide +kernel
theorem dX8_lays_168 : decode cX8_lays 168 = .ok (.iconst 0, 1) := by decide +kernel
theorem dX8_lays_169 : decode cX8_lays 169 = .ok (.istore 6, 2) := by decide +kernel
theorem dX8_lays_171 : decode cX8_lays 171 = .ok (.iload 6, 2) := by decide +kernel
theorem dX8_lays_173 : decode cX8_lays 173 = .ok (.iload_n 3, 1) := by decide +kernel
theorem dX8_lays_174 : decode cX8_lays 174 = .ok (.if_icmp .ge 29, 3) := by decide +kernel
theorem dX8_lays_177 : decode cX8_lays 177 = .ok (.aload_n 0, 1) := by decide +kernel
theorem dX8_lays_178 : decode cX8_lays 178 = .ok (.iload 6, 2) := by decide +kernel
theorem dX8_lays_180 : decode cX8_lays 180 = .ok (.iconst 5, 1) := by decide +kernel
theorem dX8_lays_181 : decode cX8_lays 181 = .ok (.aload_n 0, 1) := by decide +kernel
theorem dX8_lays_182 : decode cX8_lays 182 = .ok (.getfield 43, 3) := by decide +kernel
theorem dX8_lays_185 : decode cX8_lays 185 = .ok (.bipush 40, 2) := by decide +kernel
theorem dX8_lays_187 : decode cX8_lays 187 = .ok (.iload_n 1, 1) := by decide +kernel
theorem dX8_lays_188 : decode cX8_lays 188 = .ok (.imul, 1) := by decide +kernel
theorem dX8_lays_189 : decode cX8_lays 189 = .ok (.iload 6, 2) := by decide +kernel
theorem dX8_lays_191 : decode cX8_lays 191 = .ok (.iadd, 1) := by decide +kernel
theorem dX8_lays_192 : decode cX8_lays 192 = .ok (.laload, 1) := by decide +kernel
theorem dX8_lays_193 : decode cX8_lays 193 = .ok (.l2i, 1) := by decide +kernel
theorem dX8_lays_194 : decode cX8_lays 194 = .ok (.invokevirtual 76, 3) := by decide +kernel
theorem dX8_lays_197 : decode cX8_lays 197 = .ok (.iinc 6 1, 3) := by decide +kernel
theorem dX8_lays_200 : decode cX8_lays 200 = .ok (.goto (-29), 3) := by decide +kernel
theorem dX8_lays_203 : decode cX8_lays 203 = .ok (.aload_n 0, 1) := by decide +kernel
theorem dX8_lays_204 : decode cX8_lays 204 = .ok (.invokevirtual 111, 3) := by decide +kernel
theorem dX8_lays_207 : decode cX8_lays 207 = .ok (.invokestatic 115, 3) := by decide +kernel
theorem dX8_lays_210 : decode cX8_lays 210 = .ok (.ireturn, 1) := by decide +kernel
theorem dX8_book_0 : decode cX8_book 0 = .ok (.aload_n 0, 1) := by decide +kernel
theorem dX8_book_1 : decode cX8_book 1 = .ok (.iload_n 1, 1) := by decide +kernel
theorem dX8_book_2 : decode cX8_book 2 = .ok (.invokevirtual 278, 3) := by decide +kernel
theorem dX8_book_5 : decode cX8_book 5 = .ok (.istore_n 3, 1) := by decide +kernel
theorem dX8_book_6 : decode cX8_book 6 = .ok (.iload_n 3, 1) := by decide +kernel
theorem dX8_book_7 : decode cX8_book 7 = .ok (.ifCond .eq 9, 3) := by decide +kernel
theorem dX8_book_10 : decode cX8_book 10 = .ok (.aload_n 0, 1) := by decide +kernel
theorem dX8_book_11 : decode cX8_book 11 = .ok (.iload_n 3, 1) := by decide +kernel
theorem dX8_book_12 : decode cX8_book 12 = .ok (.invokevirtual 83, 3) := by decide +kernel
theorem dX8_book_15 : decode cX8_book 15 = .ok (.ireturn, 1) := by decide +kernel
theorem dX8_book_16 : decode cX8_book 16 = .ok (.aload_n 0, 1) := by decide +kernel
theorem dX8_book_17 : decode cX8_book 17 = .ok (.iload_n 2, 1) := by decide +kernel
theorem dX8_book_18 : decode cX8_book 18 = .ok (.invokevirtual 91, 3) := by decide +kernel
theorem dX8_book_21 : decode cX8_book 21 = .ok (.ifCond .ne 10, 3) := by decide +kernel
theorem dX8_book_24 : decode cX8_book 24 = .ok (.aload_n 0, 1) := by decide +kernel
theorem dX8_book_25 : decode cX8_book 25 = .ok (.ldc 56, 2) := by decide +kernel
theorem dX8_book_27 : decode cX8_book 27 = .ok (.invokevirtual 83, 3) := by decide +kernel
theorem dX8_book_30 : decode cX8_book 30 = .ok (.ireturn, 1) := by decide +kernel
theorem dX8_book_31 : decode cX8_book 31 = .ok (.aload_n 0, 1) := by decide +kernel
theorem dX8_book_32 : decode cX8_book 32 = .ok (.iconst 1, 1) := by decide +kernel
theorem dX8_book_33 : decode cX8_book 33 = .ok (.aload_n 0, 1) := by decide +kernel
theorem dX8_book_34 : decode cX8_book 34 = .ok (.getfield 28, 3) := by decide +kernel
theorem dX8_book_37 : decode cX8_book 37 = .ok (.invokevirtual 161, 3) := by decide +kernel
theorem dX8_book_40 : decode cX8_book 40 = .ok (.iconst 0, 1) := by decide +kernel
theorem dX8_book_41 : decode cX8_book 41 = .ok (.istore 4, 2) := by decide +kernel
theorem dX8_book_43 : decode cX8_book 43 = .ok (.iload 4, 2) := by decide +kernel
theorem dX8_book_45 : decode cX8_book 45 = .ok (.aload_n 0, 1) := by decide +kernel
theorem dX8_book_46 : decode cX8_book 46 = .ok (.getfield 40, 3) := by decide +kernel
theorem dX8_book_49 : decode cX8_book 49 = .ok (.iload_n 1, 1) := by decide +kernel
theorem dX8_book_50 : decode cX8_book 50 = .ok (.iaload, 1) := by decide +kernel
theorem dX8_book_51 : decode cX8_book 51 = .ok (.if_icmp .ge 41, 3) := by decide +kernel
theorem dX8_book_54 : decode cX8_book 54 = .ok (.aload_n 0, 1) := by decide +kernel
theorem dX8_book_55 : decode cX8_book 55 = .ok (.getfield 43, 3) := by decide +kernel
theorem dX8_book_58 : decode cX8_book 58 = .ok (.bipush 40, 2) := by decide +kernel
theorem dX8_book_60 : decode cX8_book 60 = .ok (.iload_n 1, 1) := by decide +kernel
theorem dX8_book_61 : decode cX8_book 61 = .ok (.imul, 1) := by decide +kernel
theorem dX8_book_62 : decode cX8_book 62 = .ok (.iload 4, 2) := by decide +kernel
theorem dX8_book_64 : decode cX8_book 64 = .ok (.iadd, 1) := by decide +kernel
theorem dX8_book_65 : decode cX8_book 65 = .ok (.aload_n 0, 1) := by decide +kernel
theorem dX8_book_66 : decode cX8_book 66 = .ok (.getfield 37, 3) := by decide +kernel
theorem dX8_book_69 : decode cX8_book 69 = .ok (.iload_n 1, 1) := by decide +kernel
theorem dX8_book_70 : decode cX8_book 70 = .ok (.iaload, 1) := by decide +kernel
theorem dX8_book_71 : decode cX8_book 71 = .ok (.aload_n 0, 1) := by decide +kernel
theorem dX8_book_72 : decode cX8_book 72 = .ok (.iload_n 2, 1) := by decide +kernel
theorem dX8_book_73 : decode cX8_book 73 = .ok (.iconst 2, 1) := by decide +kernel
theorem dX8_book_74 : decode cX8_book 74 = .ok (.invokevirtual 61, 3) := by decide +kernel
theorem dX8_book_77 : decode cX8_book 77 = .ok (.i2l, 1) := by decide +kernel
theorem dX8_book_78 : decode cX8_book 78 = .ok (.invokestatic 271, 3) := by decide +kernel
theorem dX8_book_81 : decode cX8_book 81 = .ok (.lastore, 1) := by decide +kernel
theorem dX8_book_82 : decode cX8_book 82 = .ok (.aload_n 0, 1) := by decide +kernel
theorem dX8_book_83 : decode cX8_book 83 = .ok (.invokevirtual 139, 3) := by decide +kernel
theorem dX8_book_86 : decode cX8_book 86 = .ok (.iinc 4 1, 3) := by decide +kernel
theorem dX8_book_89 : decode cX8_book 89 = .ok (.goto (-46), 3) := by decide +kernel
theorem dX8_book_92 : decode cX8_book 92 = .ok (.aload_n 0, 1) := by decide +kernel
theorem dX8_book_93 : decode cX8_book 93 = .ok (.iconst 0, 1) := by decide +kernel
theorem dX8_book_94 : decode cX8_book 94 = .ok (.aload_n 0, 1) := by decide +kernel
theorem dX8_book_95 : decode cX8_book 95 = .ok (.getfield 28, 3) := by decide +kernel
theorem dX8_book_98 : decode cX8_book 98 = .ok (.invokevirtual 161, 3) := by decide +kernel
theorem dX8_book_101 : decode cX8_book 101 = .ok (.aload_n 0, 1) := by decide +kernel
theorem dX8_book_102 : decode cX8_book 102 = .ok (.getfield 40, 3) := by decide +kernel
theorem dX8_book_105 : decode cX8_book 105 = .ok (.iload_n 1, 1) := by decide +kernel
theorem dX8_book_106 : decode cX8_book 106 = .ok (.iaload, 1) := by decide +kernel
theorem dX8_book_107 : decode cX8_book 107 = .ok (.ireturn, 1) := by decide +kernel
theorem dX8_isSo_0 : decode cX8_isSo 0 = .ok (.iconst 1, 1) := by decide +kernel
theorem dX8_isSo_1 : decode cX8_isSo 1 = .ok (.istore_n 2, 1) := by decide +kernel
theorem dX8_isSo_2 : decode cX8_isSo 2 = .ok (.aload_n 0, 1) := by decide +kernel
theorem dX8_isSo_3 : decode cX8_isSo 3 = .ok (.iconst 1, 1) := by decide +kernel
theorem dX8_isSo_4 : decode cX8_isSo 4 = .ok (.aload_n 0, 1) := by decide +kernel
theorem dX8_isSo_5 : decode cX8_isSo 5 = .ok (.getfield 28, 3) := by decide +kernel
theorem dX8_isSo_8 : decode cX8_isSo 8 = .ok (.invokevirtual 161, 3) := by decide +kernel
theorem dX8_isSo_11 : decode cX8_isSo 11 = .ok (.aload_n 0, 1) := by decide +kernel
theorem dX8_isSo_12 : decode cX8_isSo 12 = .ok (.invokevirtual 139, 3) := by decide +kernel
theorem dX8_isSo_15 : decode cX8_isSo 15 = .ok (.iconst 0, 1) := by decide +kernel
theorem dX8_isSo_16 : decode cX8_isSo 16 = .ok (.istore_n 3, 1) := by decide +kernel
theorem dX8_isSo_17 : decode cX8_isSo 17 = .ok (.iload_n 3, 1) := by decide +kernel
theorem dX8_isSo_18 : decode cX8_isSo 18 = .ok (.aload_n 0, 1) := by decide +kernel
theorem dX8_isSo_19 : decode cX8_isSo 19 = .ok (.getfield 7, 3) := by decide +kernel
theorem dX8_isSo_22 : decode cX8_isSo 22 = .ok (.iconst 2, 1) := by decide +kernel
theorem dX8_isSo_23 : decode cX8_isSo 23 = .ok (.iaload, 1) := by decide +kernel
theorem dX8_isSo_24 : decode cX8_isSo 24 = .ok (.if_icmp .ge 51, 3) := by decide +kernel
theorem dX8_isSo_27 : decode cX8_isSo 27 = .ok (.iload_n 3, 1) := by decide +kernel
theorem dX8_isSo_28 : decode cX8_isSo 28 = .ok (.aload_n 0, 1) := by decide +kernel
theorem dX8_isSo_29 : decode cX8_isSo 29 = .ok (.getfield 40, 3) := by decide +kernel
theorem dX8_isSo_32 : decode cX8_isSo 32 = .ok (.iload_n 1, 1) := by decide +kernel
theorem dX8_isSo_33 : decode cX8_isSo 33 = .ok (.iaload, 1) := by decide +kernel
theorem dX8_isSo_34 : decode cX8_isSo 34 = .ok (.if_icmp .ge 41, 3) := by decide +kernel
theorem dX8_isSo_37 : decode cX8_isSo 37 = .ok (.iload_n 2, 1) := by decide +kernel
theorem dX8_isSo_38 : decode cX8_isSo 38 = .ok (.ifCond .eq 37, 3) := by decide +kernel
theorem dX8_isSo_41 : decode cX8_isSo 41 = .ok (.aload_n 0, 1) := by decide +kernel
theorem dX8_isSo_42 : decode cX8_isSo 42 = .ok (.getfield 43, 3) := by decide +kernel
theorem dX8_isSo_45 : decode cX8_isSo 45 = .ok (.bipush 40, 2) := by decide +kernel
theorem dX8_isSo_47 : decode cX8_isSo 47 = .ok (.iload_n 1, 1) := by decide +kernel
theorem dX8_isSo_48 : decode cX8_isSo 48 = .ok (.imul, 1) := by decide +kernel
theorem dX8_isSo_49 : decode cX8_isSo 49 = .ok (.iload_n 3, 1) := by decide +kernel
theorem dX8_isSo_50 : decode cX8_isSo 50 = .ok (.iadd, 1) := by decide +kernel
theorem dX8_isSo_51 : decode cX8_isSo 51 = .ok (.laload, 1) := by decide +kernel
theorem dX8_isSo_52 : decode cX8_isSo 52 = .ok (.aload_n 0, 1) := by decide +kernel
theorem dX8_isSo_53 : decode cX8_isSo 53 = .ok (.iload_n 3, 1) := by decide +kernel
theorem dX8_isSo_54 : decode cX8_isSo 54 = .ok (.iconst 2, 1) := by decide +kernel
theorem dX8_isSo_55 : decode cX8_isSo 55 = .ok (.invokevirtual 61, 3) := by decide +kernel
theorem dX8_isSo_58 : decode cX8_isSo 58 = .ok (.i2l, 1) := by decide +kernel
theorem dX8_isSo_59 : decode cX8_isSo 59 = .ok (.lcmp, 1) := by decide +kernel
theorem dX8_isSo_60 : decode cX8_isSo 60 = .ok (.ifCond .ne 7, 3) := by decide +kernel
theorem dX8_isSo_63 : decode cX8_isSo 63 = .ok (.iconst 1, 1) := by decide +kernel
theorem dX8_isSo_64 : decode cX8_isSo 64 = .ok (.goto 4, 3) := by decide +kernel
theorem dX8_isSo_67 : decode cX8_isSo 67 = .ok (.iconst 0, 1) := by decide +kernel
theorem dX8_isSo_68 : decode cX8_isSo 68 = .ok (.istore_n 2, 1) := by decide +kernel
theorem dX8_isSo_69 : decode cX8_isSo 69 = .ok (.iinc 3 1, 3) := by decide +kernel
theorem dX8_isSo_72 : decode cX8_isSo 72 = .ok (.goto (-55), 3) := by decide +kernel
theorem dX8_isSo_75 : decode cX8_isSo 75 = .ok (.aload_n 0, 1) := by decide +kernel
theorem dX8_isSo_76 : decode cX8_isSo 76 = .ok (.iconst 0, 1) := by decide +kernel
theorem dX8_isSo_77 : decode cX8_isSo 77 = .ok (.aload_n 0, 1) := by decide +kernel
theorem dX8_isSo_78 : decode cX8_isSo 78 = .ok (.getfield 28, 3) := by decide +kernel
theorem dX8_isSo_81 : decode cX8_isSo 81 = .ok (.invokevirtual 161, 3) := by decide +kernel
theorem dX8_isSo_84 : decode cX8_isSo 84 = .ok (.iload_n 2, 1) := by decide +kernel
theorem dX8_isSo_85 : decode cX8_isSo 85 = .ok (.ireturn, 1) := by decide +kernel
theorem dX8_read_0 : decode cX8_read 0 = .ok (.aload_n 0, 1) := by decide +kernel
theorem dX8_read_1 : decode cX8_read 1 = .ok (.iload_n 1, 1) := by decide +kernel
theorem dX8_read_2 : decode cX8_read 2 = .ok (.invokevirtual 278, 3) := by decide +kernel
theorem dX8_read_5 : decode cX8_read 5 = .ok (.istore_n 3, 1) := by decide +kernel
theorem dX8_read_6 : decode cX8_read 6 = .ok (.iload_n 3, 1) := by decide +kernel
theorem dX8_read_7 : decode cX8_read 7 = .ok (.ifCond .eq 9, 3) := by decide +kernel
theorem dX8_read_10 : decode cX8_read 10 = .ok (.aload_n 0, 1) := by decide +kernel
theorem dX8_read_11 : decode cX8_read 11 = .ok (.iload_n 3, 1) := by decide +kernel
theorem dX8_read_12 : decode cX8_read 12 = .ok (.invokevirtual 83, 3) := by decide +kernel
theorem dX8_read_15 : decode cX8_read 15 = .ok (.ireturn, 1) := by decide +kernel
theorem dX8_read_16 : decode cX8_read 16 = .ok (.aload_n 0, 1) := by decide +kernel
theorem dX8_read_17 : decode cX8_read 17 = .ok (.iload_n 2, 1) := by decide +kernel
theorem dX8_read_18 : decode cX8_read 18 = .ok (.invokevirtual 91, 3) := by decide +kernel
theorem dX8_read_21 : decode cX8_read 21 = .ok (.ifCond .ne 10, 3) := by decide +kernel
theorem dX8_read_24 : decode cX8_read 24 = .ok (.aload_n 0, 1) := by decide +kernel
theorem dX8_read_25 : decode cX8_read 25 = .ok (.ldc 56, 2) := by decide +kernel
theorem dX8_read_27 : decode cX8_read 27 = .ok (.invokevirtual 83, 3) := by decide +kernel
theorem dX8_read_30 : decode cX8_read 30 = .ok (.ireturn, 1) := by decide +kernel
theorem dX8_read_31 : decode cX8_read 31 = .ok (.iconst 0, 1) := by decide +kernel
theorem dX8_read_32 : decode cX8_read 32 = .ok (.istore 4, 2) := by decide +kernel
theorem dX8_read_34 : decode cX8_read 34 = .ok (.iconst 0, 1) := by decide +kernel
theorem dX8_read_35 : decode cX8_read 35 = .ok (.istore 5, 2) := by decide +kernel
theorem dX8_read_37 : decode cX8_read 37 = .ok (.iload 5, 2) := by decide +kernel
theorem dX8_read_39 : decode cX8_read 39 = .ok (.aload_n 0, 1) := by decide +kernel
theorem dX8_read_40 : decode cX8_read 40 = .ok (.getfield 7, 3) := by decide +kernel
theorem dX8_read_43 : decode cX8_read 43 = .ok (.iconst 2, 1) := by decide +kernel
theorem dX8_read_44 : decode cX8_read 44 = .ok (.iaload, 1) := by decide +kernel
theorem dX8_read_45 : decode cX8_read 45 = .ok (.if_icmp .ge 59, 3) := by decide +kernel
theorem dX8_read_48 : decode cX8_read 48 = .ok (.aload_n 0, 1) := by decide +kernel
theorem dX8_read_49 : decode cX8_read 49 = .ok (.iload_n 2, 1) := by decide +kernel
theorem dX8_read_50 : decode cX8_read 50 = .ok (.iload 5, 2) := by decide +kernel
theorem dX8_read_52 : decode cX8_read 52 = .ok (.invokevirtual 102, 3) := by decide +kernel
theorem dX8_read_55 : decode cX8_read 55 = .ok (.ifCond .eq 43, 3) := by decide +kernel
theorem dX8_read_58 : decode cX8_read 58 = .ok (.aload_n 0, 1) := by decide +kernel
theorem dX8_read_59 : decode cX8_read 59 = .ok (.iload 5, 2) := by decide +kernel
theorem dX8_read_61 : decode cX8_read 61 = .ok (.invokevirtual 155, 3) := by decide +kernel
theorem dX8_read_64 : decode cX8_read 64 = .ok (.istore 6, 2) := by decide +kernel
theorem dX8_read_66 : decode cX8_read 66 = .ok (.aload_n 0, 1) := by decide +kernel
theorem dX8_read_67 : decode cX8_read 67 = .ok (.iload_n 2, 1) := by decide +kernel
theorem dX8_read_68 : decode cX8_read 68 = .ok (.iload 6, 2) := by decide +kernel
theorem dX8_read_70 : decode cX8_read 70 = .ok (.invokevirtual 107, 3) := by decide +kernel
theorem dX8_read_73 : decode cX8_read 73 = .ok (.iload 4, 2) := by decide +kernel
theorem dX8_read_75 : decode cX8_read 75 = .ok (.aload_n 0, 1) := by decide +kernel
theorem dX8_read_76 : decode cX8_read 76 = .ok (.iload_n 1, 1) := by decide +kernel
theorem dX8_read_77 : decode cX8_read 77 = .ok (.invokevirtual 281, 3) := by decide +kernel
theorem dX8_read_80 : decode cX8_read 80 = .ok (.ifCond .eq 7, 3) := by decide +kernel
theorem dX8_read_83 : decode cX8_read 83 = .ok (.iconst 1, 1) := by decide +kernel
theorem dX8_read_84 : decode cX8_read 84 = .ok (.goto 4, 3) := by decide +kernel
theorem dX8_read_87 : decode cX8_read 87 = .ok (.iconst 0, 1) := by decide +kernel
theorem dX8_read_88 : decode cX8_read 88 = .ok (.iadd, 1) := by decide +kernel
theorem dX8_read_89 : decode cX8_read 89 = .ok (.istore 4, 2) := by decide +kernel
theorem dX8_read_91 : decode cX8_read 91 = .ok (.aload_n 0, 1) := by decide +kernel
theorem dX8_read_92 : decode cX8_read 92 = .ok (.iload_n 2, 1) := by decide +kernel
theorem dX8_read_93 : decode cX8_read 93 = .ok (.iload 6, 2) := by decide +kernel
theorem dX8_read_95 : decode cX8_read 95 = .ok (.invokevirtual 107, 3) := by decide +kernel
theorem dX8_read_98 : decode cX8_read 98 = .ok (.iinc 5 1, 3) := by decide +kernel
theorem dX8_read_101 : decode cX8_read 101 = .ok (.goto (-64), 3) := by decide +kernel
theorem dX8_read_104 : decode cX8_read 104 = .ok (.iload 4, 2) := by decide +kernel
theorem dX8_read_106 : decode cX8_read 106 = .ok (.ireturn, 1) := by decide +kernel
theorem dX8_moveAll_0 : decode cX8_moveAll 0 = .ok (.iconst 0, 1) := by decide +kernel
theorem dX8_moveAll_1 : decode cX8_moveAll 1 = .ok (.istore_n 3, 1) := by decide +kernel
theorem dX8_moveAll_2 : decode cX8_moveAll 2 = .ok (.iload_n 3, 1) := by decide +kernel
theorem dX8_moveAll_3 : decode cX8_moveAll 3 = .ok (.bipush 51, 2) := by decide +kernel
theorem dX8_moveAll_5 : decode cX8_moveAll 5 = .ok (.if_icmp .ge 34, 3) := by decide +kernel
theorem dX8_moveAll_8 : decode cX8_moveAll 8 = .ok (.iload_n 1, 1) := by decide +kernel
theorem dX8_moveAll_9 : decode cX8_moveAll 9 = .ok (.ifCond .eq 15, 3) := by decide +kernel
theorem dX8_moveAll_12 : decode cX8_moveAll 12 = .ok (.aload_n 2, 1) := by decide +kernel
theorem dX8_moveAll_13 : decode cX8_moveAll 13 = .ok (.iload_n 3, 1) := by decide +kernel
theorem dX8_moveAll_14 : decode cX8_moveAll 14 = .ok (.aload_n 0, 1) := by decide +kernel
theorem dX8_moveAll_15 : decode cX8_moveAll 15 = .ok (.getfield 7, 3) := by decide +kernel
theorem dX8_moveAll_18 : decode cX8_moveAll 18 = .ok (.iload_n 3, 1) := by decide +kernel
theorem dX8_moveAll_19 : decode cX8_moveAll 19 = .ok (.iaload, 1) := by decide +kernel
theorem dX8_moveAll_20 : decode cX8_moveAll 20 = .ok (.iastore, 1) := by decide +kernel
theorem dX8_moveAll_21 : decode cX8_moveAll 21 = .ok (.goto 12, 3) := by decide +kernel
theorem dX8_moveAll_24 : decode cX8_moveAll 24 = .ok (.aload_n 0, 1) := by decide +kernel
theorem dX8_moveAll_25 : decode cX8_moveAll 25 = .ok (.getfield 7, 3) := by decide +kernel
theorem dX8_moveAll_28 : decode cX8_moveAll 28 = .ok (.iload_n 3, 1) := by decide +kernel
theorem dX8_moveAll_29 : decode cX8_moveAll 29 = .ok (.aload_n 2, 1) := by decide +kernel
theorem dX8_moveAll_30 : decode cX8_moveAll 30 = .ok (.iload_n 3, 1) := by decide +kernel
theorem dX8_moveAll_31 : decode cX8_moveAll 31 = .ok (.iaload, 1) := by decide +kernel
theorem dX8_moveAll_32 : decode cX8_moveAll 32 = .ok (.iastore, 1) := by decide +kernel
theorem dX8_moveAll_33 : decode cX8_moveAll 33 = .ok (.iinc 3 1, 3) := by decide +kernel
theorem dX8_moveAll_36 : decode cX8_moveAll 36 = .ok (.goto (-34), 3) := by decide +kernel
theorem dX8_moveAll_39 : decode cX8_moveAll 39 = .ok (.return_, 1) := by decide +kernel
theorem dX8_image_0 : decode cX8_image 0 = .ok (.aload_n 0, 1) := by decide +kernel
theorem dX8_image_1 : decode cX8_image 1 = .ok (.iconst 1, 1) := by decide +kernel
theorem dX8_image_2 : decode cX8_image 2 = .ok (.aload_n 0, 1) := by decide +kernel
theorem dX8_image_3 : decode cX8_image 3 = .ok (.getfield 50, 3) := by decide +kernel
theorem dX8_image_6 : decode cX8_image 6 = .ok (.invokevirtual 161, 3) := by decide +kernel
theorem dX8_image_9 : decode cX8_image 9 = .ok (.aload_n 0, 1) := by decide +kernel
theorem dX8_image_10 : decode cX8_image 10 = .ok (.iconst 1, 1) := by decide +kernel
theorem dX8_image_11 : decode cX8_image 11 = .ok (.putfield 284, 3) := by decide +kernel
theorem dX8_image_14 : decode cX8_image 14 = .ok (.iconst 1, 1) := by decide +kernel
theorem dX8_image_15 : decode cX8_image 15 = .ok (.ireturn, 1) := by decide +kernel
theorem dX8_undo_0 : decode cX8_undo 0 = .ok (.aload_n 0, 1) := by decide +kernel
theorem dX8_undo_1 : decode cX8_undo 1 = .ok (.getfield 284, 3) := by decide +kernel
theorem dX8_undo_4 : decode cX8_undo 4 = .ok (.ifCond .ne 10, 3) := by decide +kernel
theorem dX8_undo_7 : decode cX8_undo 7 = .ok (.aload_n 0, 1) := by decide +kernel
theorem dX8_undo_8 : decode cX8_undo 8 = .ok (.ldc 165, 2) := by decide +kernel
theorem dX8_undo_10 : decode cX8_undo 10 = .ok (.invokevirtual 83, 3) := by decide +kernel
theorem dX8_undo_13 : decode cX8_undo 13 = .ok (.ireturn, 1) := by decide +kernel
theorem dX8_undo_14 : decode cX8_undo 14 = .ok (.aload_n 0, 1) := by decide +kernel
theorem dX8_undo_15 : decode cX8_undo 15 = .ok (.iconst 0, 1) := by decide +kernel
theorem dX8_undo_16 : decode cX8_undo 16 = .ok (.aload_n 0, 1) := by decide +kernel
theorem dX8_undo_17 : decode cX8_undo 17 = .ok (.getfield 50, 3) := by decide +kernel
theorem dX8_undo_20 : decode cX8_undo 20 = .ok (.invokevirtual 161, 3) := by decide +kernel
theorem dX8_undo_23 : decode cX8_undo 23 = .ok (.aload_n 0, 1) := by decide +kernel
theorem dX8_undo_24 : decode cX8_undo 24 = .ok (.getfield 7, 3) := by decide +kernel
theorem dX8_undo_27 : decode cX8_undo 27 = .ok (.iconst 2, 1) := by decide +kernel
theorem dX8_undo_28 : decode cX8_undo 28 = .ok (.iaload, 1) := by decide +kernel
theorem dX8_undo_29 : decode cX8_undo 29 = .ok (.ireturn, 1) := by decide +kernel
theorem dX8_tear_0 : decode cX8_tear 0 = .ok (.aload_n 0, 1) := by decide +kernel
theorem dX8_tear_1 : decode cX8_tear 1 = .ok (.getfield 284, 3) := by decide +kernel
theorem dX8_tear_4 : decode cX8_tear 4 = .ok (.ifCond .eq 7, 3) := by decide +kernel
theorem dX8_tear_7 : decode cX8_tear 7 = .ok (.iconst 1, 1) := by decide +kernel
theorem dX8_tear_8 : decode cX8_tear 8 = .ok (.goto 4, 3) := by decide +kernel
theorem dX8_tear_11 : decode cX8_tear 11 = .ok (.iconst 0, 1) := by decide +kernel
theorem dX8_tear_12 : decode cX8_tear 12 = .ok (.istore_n 1, 1) := by decide +kernel
theorem dX8_tear_13 : decode cX8_tear 13 = .ok (.aload_n 0, 1) := by decide +kernel
theorem dX8_tear_14 : decode cX8_tear 14 = .ok (.iconst 0, 1) := by decide +kernel
theorem dX8_tear_15 : decode cX8_tear 15 = .ok (.putfield 284, 3) := by decide +kernel
theorem dX8_tear_18 : decode cX8_tear 18 = .ok (.iload_n 1, 1) := by decide +kernel
theorem dX8_tear_19 : decode cX8_tear 19 = .ok (.ireturn, 1) := by decide +kernel
theorem dX8_count_0 : decode cX8_count 0 = .ok (.iload_n 1, 1) := by decide +kernel
theorem dX8_count_1 : decode cX8_count 1 = .ok (.tableswitch 56 0 3 #[31, 38, 43, 50], 31) := by decide +kernel
theorem dX8_count_32 : decode cX8_count 32 = .ok (.aload_n 0, 1) := by decide +kernel
theorem dX8_count_33 : decode cX8_count 33 = .ok (.getfield 7, 3) := by decide +kernel
theorem dX8_count_36 : decode cX8_count 36 = .ok (.iconst 2, 1) := by decide +kernel
theorem dX8_count_37 : decode cX8_count 37 = .ok (.iaload, 1) := by decide +kernel
theorem dX8_count_38 : decode cX8_count 38 = .ok (.ireturn, 1) := by decide +kernel
theorem dX8_count_39 : decode cX8_count 39 = .ok (.aload_n 0, 1) := by decide +kernel
theorem dX8_count_40 : decode cX8_count 40 = .ok (.getfield 178, 3) := by decide +kernel
theorem dX8_count_43 : decode cX8_count 43 = .ok (.ireturn, 1) := by decide +kernel
theorem dX8_count_44 : decode cX8_count 44 = .ok (.aload_n 0, 1) := by decide +kernel
theorem dX8_count_45 : decode cX8_count 45 = .ok (.getfield 7, 3) := by decide +kernel
theorem dX8_count_48 : decode cX8_count 48 = .ok (.iconst 1, 1) := by decide +kernel
theorem dX8_count_49 : decode cX8_count 49 = .ok (.iaload, 1) := by decide +kernel
theorem dX8_count_50 : decode cX8_count 50 = .ok (.ireturn, 1) := by decide +kernel
theorem dX8_count_51 : decode cX8_count 51 = .ok (.aload_n 0, 1) := by decide +kernel
theorem dX8_count_52 : decode cX8_count 52 = .ok (.iconst 3, 1) := by decide +kernel
theorem dX8_count_53 : decode cX8_count 53 = .ok (.invokevirtual 142, 3) := by decide +kernel
theorem dX8_count_56 : decode cX8_count 56 = .ok (.ireturn, 1) := by decide +kernel
theorem dX8_count_57 : decode cX8_count 57 = .ok (.aload_n 0, 1) := by decide +kernel
theorem dX8_count_58 : decode cX8_count 58 = .ok (.ldc 56, 2) := by decide +kernel
theorem dX8_count_60 : decode cX8_count 60 = .ok (.invokevirtual 83, 3) := by decide +kernel
theorem dX8_count_63 : decode cX8_count 63 = .ok (.ireturn, 1) := by decide +kernel
theorem dX8_status_0 : decode cX8_status 0 = .ok (.iload_n 1, 1) := by decide +kernel
theorem dX8_status_1 : decode cX8_status 1 = .ok (.iconst (-1), 1) := by decide +kernel
theorem dX8_status_2 : decode cX8_status 2 = .ok (.bipush 6, 2) := by decide +kernel
theorem dX8_status_4 : decode cX8_status 4 = .ok (.invokestatic 57, 3) := by decide +kernel
theorem dX8_status_7 : decode cX8_status 7 = .ok (.ifCond .ne 10, 3) := by decide +kernel
theorem dX8_status_10 : decode cX8_status 10 = .ok (.aload_n 0, 1) := by decide +kernel
theorem dX8_status_11 : decode cX8_status 11 = .ok (.ldc 56, 2) := by decide +kernel
theorem dX8_status_13 : decode cX8_status 13 = .ok (.invokevirtual 83, 3) := by decide +kernel
theorem dX8_status_16 : decode cX8_status 16 = .ok (.ireturn, 1) := by decide +kernel
theorem dX8_status_17 : decode cX8_status 17 = .ok (.iconst 0, 1) := by decide +kernel
theorem dX8_status_18 : decode cX8_status 18 = .ok (.istore_n 2, 1) := by decide +kernel
theorem dX8_status_19 : decode cX8_status 19 = .ok (.iconst 0, 1) := by decide +kernel
theorem dX8_status_20 : decode cX8_status 20 = .ok (.istore_n 3, 1) := by decide +kernel
theorem dX8_status_21 : decode cX8_status 21 = .ok (.iload_n 3, 1) := by decide +kernel
theorem dX8_status_22 : decode cX8_status 22 = .ok (.bipush 7, 2) := by decide +kernel
theorem dX8_status_24 : decode cX8_status 24 = .ok (.if_icmp .ge 18, 3) := by decide +kernel
theorem dX8_status_27 : decode cX8_status 27 = .ok (.iload_n 2, 1) := by decide +kernel
theorem dX8_status_28 : decode cX8_status 28 = .ok (.aload_n 0, 1) := by decide +kernel
theorem dX8_status_29 : decode cX8_status 29 = .ok (.getfield 13, 3) := by decide +kernel
theorem dX8_status_32 : decode cX8_status 32 = .ok (.iload_n 3, 1) := by decide +kernel
theorem dX8_status_33 : decode cX8_status 33 = .ok (.iaload, 1) := by decide +kernel
theorem dX8_status_34 : decode cX8_status 34 = .ok (.iadd, 1) := by decide +kernel
theorem dX8_status_35 : decode cX8_status 35 = .ok (.istore_n 2, 1) := by decide +kernel
theorem dX8_status_36 : decode cX8_status 36 = .ok (.iinc 3 1, 3) := by decide +kernel
theorem dX8_status_39 : decode cX8_status 39 = .ok (.goto (-18), 3) := by decide +kernel
theorem dX8_status_42 : decode cX8_status 42 = .ok (.iload_n 1, 1) := by decide +kernel
theorem dX8_status_43 : decode cX8_status 43 = .ok (.ifCond .ge 7, 3) := by decide +kernel
theorem dX8_status_46 : decode cX8_status 46 = .ok (.iload_n 2, 1) := by decide +kernel
theorem dX8_status_47 : decode cX8_status 47 = .ok (.goto 17, 3) := by decide +kernel
theorem dX8_status_50 : decode cX8_status 50 = .ok (.aload_n 0, 1) := by decide +kernel
theorem dX8_status_51 : decode cX8_status 51 = .ok (.getfield 13, 3) := by decide +kernel
theorem dX8_status_54 : decode cX8_status 54 = .ok (.iload_n 1, 1) := by decide +kernel
theorem dX8_status_55 : decode cX8_status 55 = .ok (.ifCond .ge 7, 3) := by decide +kernel
theorem dX8_status_58 : decode cX8_status 58 = .ok (.iconst 0, 1) := by decide +kernel
theorem dX8_status_59 : decode cX8_status 59 = .ok (.goto 4, 3) := by decide +kernel
theorem dX8_status_62 : decode cX8_status 62 = .ok (.iload_n 1, 1) := by decide +kernel
theorem dX8_status_63 : decode cX8_status 63 = .ok (.iaload, 1) := by decide +kernel
theorem dX8_status_64 : decode cX8_status 64 = .ok (.ireturn, 1) := by decide +kernel
