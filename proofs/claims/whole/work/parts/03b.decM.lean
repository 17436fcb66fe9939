theorem dX6_init_0 : decode cX6_init 0 = .ok (.aload_n 0, 1) := by decide +kernel
theorem dX6_init_1 : decode cX6_init 1 = .ok (.invokespecial 1, 3) := by decide +kernel
theorem dX6_init_4 : decode cX6_init 4 = .ok (.aload_n 0, 1) := by decide +kernel
theorem dX6_init_5 : decode cX6_init 5 = .ok (.bipush 81, 2) := by decide +kernel
theorem dX6_init_7 : decode cX6_init 7 = .ok (.newarray .int, 2) := by decide +kernel
theorem dX6_init_9 : decode cX6_init 9 = .ok (.putfield 7, 3) := by decide +kernel
theorem dX6_init_12 : decode cX6_init 12 = .ok (.aload_n 0, 1) := by decide +kernel
theorem dX6_init_13 : decode cX6_init 13 = .ok (.bipush 81, 2) := by decide +kernel
theorem dX6_init_15 : decode cX6_init 15 = .ok (.newarray .int, 2) := by decide +kernel
theorem dX6_init_17 : decode cX6_init 17 = .ok (.putfield 13, 3) := by decide +kernel
theorem dX6_init_20 : decode cX6_init 20 = .ok (.aload_n 0, 1) := by decide +kernel
theorem dX6_init_21 : decode cX6_init 21 = .ok (.bipush 81, 2) := by decide +kernel
theorem dX6_init_23 : decode cX6_init 23 = .ok (.newarray .int, 2) := by decide +kernel
theorem dX6_init_25 : decode cX6_init 25 = .ok (.putfield 16, 3) := by decide +kernel
theorem dX6_init_28 : decode cX6_init 28 = .ok (.aload_n 0, 1) := by decide +kernel
theorem dX6_init_29 : decode cX6_init 29 = .ok (.bipush 81, 2) := by decide +kernel
theorem dX6_init_31 : decode cX6_init 31 = .ok (.newarray .int, 2) := by decide +kernel
theorem dX6_init_33 : decode cX6_init 33 = .ok (.putfield 19, 3) := by decide +kernel
theorem dX6_init_36 : decode cX6_init 36 = .ok (.aload_n 0, 1) := by decide +kernel
theorem dX6_init_37 : decode cX6_init 37 = .ok (.bipush 7, 2) := by decide +kernel
theorem dX6_init_39 : decode cX6_init 39 = .ok (.newarray .int, 2) := by decide +kernel
theorem dX6_init_41 : decode cX6_init 41 = .ok (.putfield 22, 3) := by decide +kernel
theorem dX6_init_44 : decode cX6_init 44 = .ok (.aload_n 0, 1) := by decide +kernel
theorem dX6_init_45 : decode cX6_init 45 = .ok (.bipush 64, 2) := by decide +kernel
theorem dX6_init_47 : decode cX6_init 47 = .ok (.newarray .int, 2) := by decide +kernel
theorem dX6_init_49 : decode cX6_init 49 = .ok (.putfield 25, 3) := by decide +kernel
theorem dX6_init_52 : decode cX6_init 52 = .ok (.aload_n 0, 1) := by decide +kernel
theorem dX6_init_53 : decode cX6_init 53 = .ok (.sipush 256, 3) := by decide +kernel
theorem dX6_init_56 : decode cX6_init 56 = .ok (.newarray .int, 2) := by decide +kernel
theorem dX6_init_58 : decode cX6_init 58 = .ok (.putfield 28, 3) := by decide +kernel
theorem dX6_init_61 : decode cX6_init 61 = .ok (.aload_n 0, 1) := by decide +kernel
theorem dX6_init_62 : decode cX6_init 62 = .ok (.bipush 8, 2) := by decide +kernel
theorem dX6_init_64 : decode cX6_init 64 = .ok (.newarray .int, 2) := by decide +kernel
theorem dX6_init_66 : decode cX6_init 66 = .ok (.putfield 31, 3) := by decide +kernel
theorem dX6_init_69 : decode cX6_init 69 = .ok (.aload_n 0, 1) := by decide +kernel
theorem dX6_init_70 : decode cX6_init 70 = .ok (.bipush 120, 2) := by decide +kernel
theorem dX6_init_72 : decode cX6_init 72 = .ok (.newarray .int, 2) := by decide +kernel
theorem dX6_init_74 : decode cX6_init 74 = .ok (.putfield 34, 3) := by decide +kernel
theorem dX6_init_77 : decode cX6_init 77 = .ok (.aload_n 0, 1) := by decide +kernel
theorem dX6_init_78 : decode cX6_init 78 = .ok (.iconst 4, 1) := by decide +kernel
theorem dX6_init_79 : decode cX6_init 79 = .ok (.newarray .int, 2) := by decide +kernel
theorem dX6_init_81 : decode cX6_init 81 = .ok (.putfield 37, 3) := by decide +kernel
theorem dX6_init_84 : decode cX6_init 84 = .ok (.aload_n 0, 1) := by decide +kernel
theorem dX6_init_85 : decode cX6_init 85 = .ok (.iconst 4, 1) := by decide +kernel
theorem dX6_init_86 : decode cX6_init 86 = .ok (.newarray .int, 2) := by decide +kernel
theorem dX6_init_88 : decode cX6_init 88 = .ok (.putfield 40, 3) := by decide +kernel
theorem dX6_init_91 : decode cX6_init 91 = .ok (.aload_n 0, 1) := by decide +kernel
theorem dX6_init_92 : decode cX6_init 92 = .ok (.sipush 160, 3) := by decide +kernel
theorem dX6_init_95 : decode cX6_init 95 = .ok (.newarray .int, 2) := by decide +kernel
theorem dX6_init_97 : decode cX6_init 97 = .ok (.putfield 43, 3) := by decide +kernel
theorem dX6_init_100 : decode cX6_init 100 = .ok (.aload_n 0, 1) := by decide +kernel
theorem dX6_init_101 : decode cX6_init 101 = .ok (.bipush 40, 2) := by decide +kernel
theorem dX6_init_103 : decode cX6_init 103 = .ok (.newarray .int, 2) := by decide +kernel
theorem dX6_init_105 : decode cX6_init 105 = .ok (.putfield 46, 3) := by decide +kernel
theorem dX6_init_108 : decode cX6_init 108 = .ok (.aload_n 0, 1) := by decide +kernel
theorem dX6_init_109 : decode cX6_init 109 = .ok (.getfield 7, 3) := by decide +kernel
theorem dX6_init_112 : decode cX6_init 112 = .ok (.iconst 4, 1) := by decide +kernel
theorem dX6_init_113 : decode cX6_init 113 = .ok (.iconst 1, 1) := by decide +kernel
theorem dX6_init_114 : decode cX6_init 114 = .ok (.iastore, 1) := by decide +kernel
theorem dX6_init_115 : decode cX6_init 115 = .ok (.aload_n 0, 1) := by decide +kernel
theorem dX6_init_116 : decode cX6_init 116 = .ok (.getfield 7, 3) := by decide +kernel
theorem dX6_init_119 : decode cX6_init 119 = .ok (.iconst 5, 1) := by decide +kernel
theorem dX6_init_120 : decode cX6_init 120 = .ok (.iconst (-1), 1) := by decide +kernel
theorem dX6_init_121 : decode cX6_init 121 = .ok (.iastore, 1) := by decide +kernel
theorem dX6_init_122 : decode cX6_init 122 = .ok (.aload_n 0, 1) := by decide +kernel
theorem dX6_init_123 : decode cX6_init 123 = .ok (.getfield 7, 3) := by decide +kernel
theorem dX6_init_126 : decode cX6_init 126 = .ok (.bipush 6, 2) := by decide +kernel
theorem dX6_init_128 : decode cX6_init 128 = .ok (.iconst (-1), 1) := by decide +kernel
theorem dX6_init_129 : decode cX6_init 129 = .ok (.iastore, 1) := by decide +kernel
theorem dX6_init_130 : decode cX6_init 130 = .ok (.iconst 0, 1) := by decide +kernel
theorem dX6_init_131 : decode cX6_init 131 = .ok (.istore_n 1, 1) := by decide +kernel
theorem dX6_init_132 : decode cX6_init 132 = .ok (.iload_n 1, 1) := by decide +kernel
theorem dX6_init_133 : decode cX6_init 133 = .ok (.bipush 10, 2) := by decide +kernel
theorem dX6_init_135 : decode cX6_init 135 = .ok (.if_icmp .ge 19, 3) := by decide +kernel
theorem dX6_init_138 : decode cX6_init 138 = .ok (.aload_n 0, 1) := by decide +kernel
theorem dX6_init_139 : decode cX6_init 139 = .ok (.getfield 7, 3) := by decide +kernel
theorem dX6_init_142 : decode cX6_init 142 = .ok (.bipush 71, 2) := by decide +kernel
theorem dX6_init_144 : decode cX6_init 144 = .ok (.iload_n 1, 1) := by decide +kernel
theorem dX6_init_145 : decode cX6_init 145 = .ok (.iadd, 1) := by decide +kernel
theorem dX6_init_146 : decode cX6_init 146 = .ok (.iconst (-1), 1) := by decide +kernel
theorem dX6_init_147 : decode cX6_init 147 = .ok (.iastore, 1) := by decide +kernel
theorem dX6_init_148 : decode cX6_init 148 = .ok (.iinc 1 1, 3) := by decide +kernel
theorem dX6_init_151 : decode cX6_init 151 = .ok (.goto (-19), 3) := by decide +kernel
theorem dX6_init_154 : decode cX6_init 154 = .ok (.return_, 1) := by decide +kernel
theorem dX6_in_0 : decode cX6_in 0 = .ok (.lload_n 0, 1) := by decide +kernel
theorem dX6_in_1 : decode cX6_in 1 = .ok (.lload_n 2, 1) := by decide +kernel
theorem dX6_in_2 : decode cX6_in 2 = .ok (.lcmp, 1) := by decide +kernel
theorem dX6_in_3 : decode cX6_in 3 = .ok (.ifCond .lt 14, 3) := by decide +kernel
theorem dX6_in_6 : decode cX6_in 6 = .ok (.lload_n 0, 1) := by decide +kernel
theorem dX6_in_7 : decode cX6_in 7 = .ok (.lload 4, 2) := by decide +kernel
theorem dX6_in_9 : decode cX6_in 9 = .ok (.lcmp, 1) := by decide +kernel
theorem dX6_in_10 : decode cX6_in 10 = .ok (.ifCond .gt 7, 3) := by decide +kernel
theorem dX6_in_13 : decode cX6_in 13 = .ok (.iconst 1, 1) := by decide +kernel
theorem dX6_in_14 : decode cX6_in 14 = .ok (.goto 4, 3) := by decide +kernel
theorem dX6_in_17 : decode cX6_in 17 = .ok (.iconst 0, 1) := by decide +kernel
theorem dX6_in_18 : decode cX6_in 18 = .ok (.ireturn, 1) := by decide +kernel
theorem dX6_finds_0 : decode cX6_finds 0 = .ok (.aload_n 0, 1) := by decide +kernel
theorem dX6_finds_1 : decode cX6_finds 1 = .ok (.getfield 22, 3) := by decide +kernel
theorem dX6_finds_4 : decode cX6_finds 4 = .ok (.ldc 49, 2) := by decide +kernel
theorem dX6_finds_6 : decode cX6_finds 6 = .ok (.iload_n 1, 1) := by decide +kernel
theorem dX6_finds_7 : decode cX6_finds 7 = .ok (.isub, 1) := by decide +kernel
theorem dX6_finds_8 : decode cX6_finds 8 = .ok (.dup2, 1) := by decide +kernel
theorem dX6_finds_9 : decode cX6_finds 9 = .ok (.iaload, 1) := by decide +kernel
theorem dX6_finds_10 : decode cX6_finds 10 = .ok (.iconst 1, 1) := by decide +kernel
theorem dX6_finds_11 : decode cX6_finds 11 = .ok (.iadd, 1) := by decide +kernel
theorem dX6_finds_12 : decode cX6_finds 12 = .ok (.iastore, 1) := by decide +kernel
theorem dX6_finds_13 : decode cX6_finds 13 = .ok (.iload_n 1, 1) := by decide +kernel
theorem dX6_finds_14 : decode cX6_finds 14 = .ok (.ireturn, 1) := by decide +kernel
theorem dX6_saves_0 : decode cX6_saves 0 = .ok (.iconst 0, 1) := by decide +kernel
theorem dX6_saves_1 : decode cX6_saves 1 = .ok (.istore_n 1, 1) := by decide +kernel
theorem dX6_saves_2 : decode cX6_saves 2 = .ok (.iload_n 1, 1) := by decide +kernel
theorem dX6_saves_3 : decode cX6_saves 3 = .ok (.bipush 81, 2) := by decide +kernel
theorem dX6_saves_5 : decode cX6_saves 5 = .ok (.if_icmp .ge 21, 3) := by decide +kernel
theorem dX6_saves_8 : decode cX6_saves 8 = .ok (.aload_n 0, 1) := by decide +kernel
theorem dX6_saves_9 : decode cX6_saves 9 = .ok (.getfield 16, 3) := by decide +kernel
theorem dX6_saves_12 : decode cX6_saves 12 = .ok (.iload_n 1, 1) := by decide +kernel
theorem dX6_saves_13 : decode cX6_saves 13 = .ok (.aload_n 0, 1) := by decide +kernel
theorem dX6_saves_14 : decode cX6_saves 14 = .ok (.getfield 7, 3) := by decide +kernel
theorem dX6_saves_17 : decode cX6_saves 17 = .ok (.iload_n 1, 1) := by decide +kernel
theorem dX6_saves_18 : decode cX6_saves 18 = .ok (.iaload, 1) := by decide +kernel
theorem dX6_saves_19 : decode cX6_saves 19 = .ok (.iastore, 1) := by decide +kernel
theorem dX6_saves_20 : decode cX6_saves 20 = .ok (.iinc 1 1, 3) := by decide +kernel
theorem dX6_saves_23 : decode cX6_saves 23 = .ok (.goto (-21), 3) := by decide +kernel
theorem dX6_saves_26 : decode cX6_saves 26 = .ok (.return_, 1) := by decide +kernel
theorem dX6_putsBack_0 : decode cX6_putsBack 0 = .ok (.iconst 0, 1) := by decide +kernel
theorem dX6_putsBack_1 : decode cX6_putsBack 1 = .ok (.istore_n 1, 1) := by decide +kernel
theorem dX6_putsBack_2 : decode cX6_putsBack 2 = .ok (.iload_n 1, 1) := by decide +kernel
theorem dX6_putsBack_3 : decode cX6_putsBack 3 = .ok (.bipush 81, 2) := by decide +kernel
theorem dX6_putsBack_5 : decode cX6_putsBack 5 = .ok (.if_icmp .ge 21, 3) := by decide +kernel
theorem dX6_putsBack_8 : decode cX6_putsBack 8 = .ok (.aload_n 0, 1) := by decide +kernel
theorem dX6_putsBack_9 : decode cX6_putsBack 9 = .ok (.getfield 7, 3) := by decide +kernel
theorem dX6_putsBack_12 : decode cX6_putsBack 12 = .ok (.iload_n 1, 1) := by decide +kernel
theorem dX6_putsBack_13 : decode cX6_putsBack 13 = .ok (.aload_n 0, 1) := by decide +kernel
theorem dX6_putsBack_14 : decode cX6_putsBack 14 = .ok (.getfield 16, 3) := by decide +kernel
theorem dX6_putsBack_17 : decode cX6_putsBack 17 = .ok (.iload_n 1, 1) := by decide +kernel
theorem dX6_putsBack_18 : decode cX6_putsBack 18 = .ok (.iaload, 1) := by decide +kernel
theorem dX6_putsBack_19 : decode cX6_putsBack 19 = .ok (.iastore, 1) := by decide +kernel
theorem dX6_putsBack_20 : decode cX6_putsBack 20 = .ok (.iinc 1 1, 3) := by decide +kernel
theorem dX6_putsBack_23 : decode cX6_putsBack 23 = .ok (.goto (-21), 3) := by decide +kernel
theorem dX6_putsBack_26 : decode cX6_putsBack 26 = .ok (.return_, 1) := by decide +kernel
theorem dX6_laysAside_0 : decode cX6_laysAside 0 = .ok (.iconst 0, 1) := by decide +kernel
theorem dX6_laysAside_1 : decode cX6_laysAside 1 = .ok (.istore_n 1, 1) := by decide +kernel
theorem dX6_laysAside_2 : decode cX6_laysAside 2 = .ok (.iload_n 1, 1) := by decide +kernel
theorem dX6_laysAside_3 : decode cX6_laysAside 3 = .ok (.bipush 81, 2) := by decide +kernel
theorem dX6_laysAside_5 : decode cX6_laysAside 5 = .ok (.if_icmp .ge 21, 3) := by decide +kernel
theorem dX6_laysAside_8 : decode cX6_laysAside 8 = .ok (.aload_n 0, 1) := by decide +kernel
theorem dX6_laysAside_9 : decode cX6_laysAside 9 = .ok (.getfield 19, 3) := by decide +kernel
theorem dX6_laysAside_12 : decode cX6_laysAside 12 = .ok (.iload_n 1, 1) := by decide +kernel
theorem dX6_laysAside_13 : decode cX6_laysAside 13 = .ok (.aload_n 0, 1) := by decide +kernel
theorem dX6_laysAside_14 : decode cX6_laysAside 14 = .ok (.getfield 7, 3) := by decide +kernel
theorem dX6_laysAside_17 : decode cX6_laysAside 17 = .ok (.iload_n 1, 1) := by decide +kernel
theorem dX6_laysAside_18 : decode cX6_laysAside 18 = .ok (.iaload, 1) := by decide +kernel
theorem dX6_laysAside_19 : decode cX6_laysAside 19 = .ok (.iastore, 1) := by decide +kernel
theorem dX6_laysAside_20 : decode cX6_laysAside 20 = .ok (.iinc 1 1, 3) := by decide +kernel
theorem dX6_laysAside_23 : decode cX6_laysAside 23 = .ok (.goto (-21), 3) := by decide +kernel
theorem dX6_laysAside_26 : decode cX6_laysAside 26 = .ok (.return_, 1) := by decide +kernel
theorem dX6_takesBack_0 : decode cX6_takesBack 0 = .ok (.iconst 0, 1) := by decide +kernel
theorem dX6_takesBack_1 : decode cX6_takesBack 1 = .ok (.istore_n 2, 1) := by decide +kernel
theorem dX6_takesBack_2 : decode cX6_takesBack 2 = .ok (.iload_n 2, 1) := by decide +kernel
theorem dX6_takesBack_3 : decode cX6_takesBack 3 = .ok (.bipush 81, 2) := by decide +kernel
theorem dX6_takesBack_5 : decode cX6_takesBack 5 = .ok (.if_icmp .ge 21, 3) := by decide +kernel
theorem dX6_takesBack_8 : decode cX6_takesBack 8 = .ok (.aload_n 0, 1) := by decide +kernel
theorem dX6_takesBack_9 : decode cX6_takesBack 9 = .ok (.getfield 7, 3) := by decide +kernel
theorem dX6_takesBack_12 : decode cX6_takesBack 12 = .ok (.iload_n 2, 1) := by decide +kernel
theorem dX6_takesBack_13 : decode cX6_takesBack 13 = .ok (.aload_n 0, 1) := by decide +kernel
theorem dX6_takesBack_14 : decode cX6_takesBack 14 = .ok (.getfield 19, 3) := by decide +kernel
theorem dX6_takesBack_17 : decode cX6_takesBack 17 = .ok (.iload_n 2, 1) := by decide +kernel
theorem dX6_takesBack_18 : decode cX6_takesBack 18 = .ok (.iaload, 1) := by decide +kernel
theorem dX6_takesBack_19 : decode cX6_takesBack 19 = .ok (.iastore, 1) := by decide +kernel
theorem dX6_takesBack_20 : decode cX6_takesBack 20 = .ok (.iinc 2 1, 3) := by decide +kernel
theorem dX6_takesBack_23 : decode cX6_takesBack 23 = .ok (.goto (-21), 3) := by decide +kernel
theorem dX6_takesBack_26 : decode cX6_takesBack 26 = .ok (.iload_n 1, 1) := by decide +kernel
theorem dX6_takesBack_27 : decode cX6_takesBack 27 = .ok (.ireturn, 1) := by decide +kernel
theorem dX6_becomes_0 : decode cX6_becomes 0 = .ok (.aload_n 0, 1) := by decide +kernel
theorem dX6_becomes_1 : decode cX6_becomes 1 = .ok (.getfield 7, 3) := by decide +kernel
theorem dX6_becomes_4 : decode cX6_becomes 4 = .ok (.iload_n 1, 1) := by decide +kernel
theorem dX6_becomes_5 : decode cX6_becomes 5 = .ok (.iaload, 1) := by decide +kernel
theorem dX6_becomes_6 : decode cX6_becomes 6 = .ok (.istore_n 3, 1) := by decide +kernel
theorem dX6_becomes_7 : decode cX6_becomes 7 = .ok (.aload_n 0, 1) := by decide +kernel
theorem dX6_becomes_8 : decode cX6_becomes 8 = .ok (.getfield 7, 3) := by decide +kernel
theorem dX6_becomes_11 : decode cX6_becomes 11 = .ok (.iload_n 1, 1) := by decide +kernel
theorem dX6_becomes_12 : decode cX6_becomes 12 = .ok (.iload_n 2, 1) := by decide +kernel
theorem dX6_becomes_13 : decode cX6_becomes 13 = .ok (.iastore, 1) := by decide +kernel
theorem dX6_becomes_14 : decode cX6_becomes 14 = .ok (.iload_n 3, 1) := by decide +kernel
theorem dX6_becomes_15 : decode cX6_becomes 15 = .ok (.ireturn, 1) := by decide +kernel
theorem dX6_isSubject_0 : decode cX6_isSubject 0 = .ok (.iload_n 0, 1) := by decide +kernel
theorem dX6_isSubject_1 : decode cX6_isSubject 1 = .ok (.i2l, 1) := by decide +kernel
theorem dX6_isSubject_2 : decode cX6_isSubject 2 = .ok (.lconst 0, 1) := by decide +kernel
theorem dX6_isSubject_3 : decode cX6_isSubject 3 = .ok (.ldc2_w 50, 3) := by decide +kernel
theorem dX6_isSubject_6 : decode cX6_isSubject 6 = .ok (.invokestatic 52, 3) := by decide +kernel
theorem dX6_isSubject_9 : decode cX6_isSubject 9 = .ok (.ireturn, 1) := by decide +kernel
theorem dX6_isPerson_0 : decode cX6_isPerson 0 = .ok (.iload_n 1, 1) := by decide +kernel
theorem dX6_isPerson_1 : decode cX6_isPerson 1 = .ok (.i2l, 1) := by decide +kernel
theorem dX6_isPerson_2 : decode cX6_isPerson 2 = .ok (.lconst 0, 1) := by decide +kernel
theorem dX6_isPerson_3 : decode cX6_isPerson 3 = .ok (.aload_n 0, 1) := by decide +kernel
theorem dX6_isPerson_4 : decode cX6_isPerson 4 = .ok (.getfield 7, 3) := by decide +kernel
theorem dX6_isPerson_7 : decode cX6_isPerson 7 = .ok (.iconst 1, 1) := by decide +kernel
theorem dX6_isPerson_8 : decode cX6_isPerson 8 = .ok (.iaload, 1) := by decide +kernel
theorem dX6_isPerson_9 : decode cX6_isPerson 9 = .ok (.iconst 1, 1) := by decide +kernel
theorem dX6_isPerson_10 : decode cX6_isPerson 10 = .ok (.isub, 1) := by decide +kernel
theorem dX6_isPerson_11 : decode cX6_isPerson 11 = .ok (.i2l, 1) := by decide +kernel
theorem dX6_isPerson_12 : decode cX6_isPerson 12 = .ok (.invokestatic 52, 3) := by decide +kernel
theorem dX6_isPerson_15 : decode cX6_isPerson 15 = .ok (.ireturn, 1) := by decide +kernel
theorem dX6_areTwo_0 : decode cX6_areTwo 0 = .ok (.aload_n 0, 1) := by decide +kernel
theorem dX6_areTwo_1 : decode cX6_areTwo 1 = .ok (.iload_n 1, 1) := by decide +kernel
theorem dX6_areTwo_2 : decode cX6_areTwo 2 = .ok (.invokevirtual 56, 3) := by decide +kernel
theorem dX6_areTwo_5 : decode cX6_areTwo 5 = .ok (.ifCond .eq 20, 3) := by decide +kernel
theorem dX6_areTwo_8 : decode cX6_areTwo 8 = .ok (.aload_n 0, 1) := by decide +kernel
theorem dX6_areTwo_9 : decode cX6_areTwo 9 = .ok (.iload_n 2, 1) := by decide +kernel
theorem dX6_areTwo_10 : decode cX6_areTwo 10 = .ok (.invokevirtual 56, 3) := by decide +kernel
theorem dX6_areTwo_13 : decode cX6_areTwo 13 = .ok (.ifCond .eq 12, 3) := by decide +kernel
theorem dX6_areTwo_16 : decode cX6_areTwo 16 = .ok (.iload_n 1, 1) := by decide +kernel
theorem dX6_areTwo_17 : decode cX6_areTwo 17 = .ok (.iload_n 2, 1) := by decide +kernel
theorem dX6_areTwo_18 : decode cX6_areTwo 18 = .ok (.if_icmp .eq 7, 3) := by decide +kernel
theorem dX6_areTwo_21 : decode cX6_areTwo 21 = .ok (.iconst 1, 1) := by decide +kernel
theorem dX6_areTwo_22 : decode cX6_areTwo 22 = .ok (.goto 4, 3) := by decide +kernel
theorem dX6_areTwo_25 : decode cX6_areTwo 25 = .ok (.iconst 0, 1) := by decide +kernel
theorem dX6_areTwo_26 : decode cX6_areTwo 26 = .ok (.ireturn, 1) := by decide +kernel
theorem dX6_isKind_0 : decode cX6_isKind 0 = .ok (.iload_n 0, 1) := by decide +kernel
theorem dX6_isKind_1 : decode cX6_isKind 1 = .ok (.i2l, 1) := by decide +kernel
theorem dX6_isKind_2 : decode cX6_isKind 2 = .ok (.lconst 0, 1) := by decide +kernel
theorem dX6_isKind_3 : decode cX6_isKind 3 = .ok (.ldc2_w 60, 3) := by decide +kernel
theorem dX6_isKind_6 : decode cX6_isKind 6 = .ok (.invokestatic 52, 3) := by decide +kernel
theorem dX6_isKind_9 : decode cX6_isKind 9 = .ok (.ireturn, 1) := by decide +kernel
theorem dX6_isView_0 : decode cX6_isView 0 = .ok (.iload_n 0, 1) := by decide +kernel
theorem dX6_isView_1 : decode cX6_isView 1 = .ok (.i2l, 1) := by decide +kernel
theorem dX6_isView_2 : decode cX6_isView 2 = .ok (.ldc2_w 62, 3) := by decide +kernel
theorem dX6_isView_5 : decode cX6_isView 5 = .ok (.ldc2_w 64, 3) := by decide +kernel
theorem dX6_isView_8 : decode cX6_isView 8 = .ok (.invokestatic 52, 3) := by decide +kernel
theorem dX6_isView_11 : decode cX6_isView 11 = .ok (.ireturn, 1) := by decide +kernel
theorem dX6_place_0 : decode cX6_place 0 = .ok (.bipush 7, 2) := by decide +kernel
theorem dX6_place_2 : decode cX6_place 2 = .ok (.bipush 8, 2) := by decide +kernel
theorem dX6_place_4 : decode cX6_place 4 = .ok (.iload_n 0, 1) := by decide +kernel
theorem dX6_place_5 : decode cX6_place 5 = .ok (.imul, 1) := by decide +kernel
theorem dX6_place_6 : decode cX6_place 6 = .ok (.iadd, 1) := by decide +kernel
theorem dX6_place_7 : decode cX6_place 7 = .ok (.iload_n 1, 1) := by decide +kernel
theorem dX6_place_8 : decode cX6_place 8 = .ok (.iadd, 1) := by decide +kernel
theorem dX6_place_9 : decode cX6_place 9 = .ok (.ireturn, 1) := by decide +kernel
theorem dX6_its_0 : decode cX6_its 0 = .ok (.aload_n 0, 1) := by decide +kernel
theorem dX6_its_1 : decode cX6_its 1 = .ok (.getfield 7, 3) := by decide +kernel
theorem dX6_its_4 : decode cX6_its 4 = .ok (.iload_n 1, 1) := by decide +kernel
theorem dX6_its_5 : decode cX6_its 5 = .ok (.iload_n 2, 1) := by decide +kernel
theorem dX6_its_6 : decode cX6_its 6 = .ok (.invokestatic 66, 3) := by decide +kernel
theorem dX6_its_9 : decode cX6_its 9 = .ok (.iaload, 1) := by decide +kernel
theorem dX6_its_10 : decode cX6_its 10 = .ok (.ireturn, 1) := by decide +kernel
theorem dX6_isSomebody_0 : decode cX6_isSomebody 0 = .ok (.aload_n 0, 1) := by decide +kernel
theorem dX6_isSomebody_1 : decode cX6_isSomebody 1 = .ok (.getfield 7, 3) := by decide +kernel
theorem dX6_isSomebody_4 : decode cX6_isSomebody 4 = .ok (.iconst 5, 1) := by decide +kernel
theorem dX6_isSomebody_5 : decode cX6_isSomebody 5 = .ok (.iaload, 1) := by decide +kernel
theorem dX6_isSomebody_6 : decode cX6_isSomebody 6 = .ok (.ifCond .lt 7, 3) := by decide +kernel
theorem dX6_isSomebody_9 : decode cX6_isSomebody 9 = .ok (.iconst 1, 1) := by decide +kernel
theorem dX6_isSomebody_10 : decode cX6_isSomebody 10 = .ok (.goto 4, 3) := by decide +kernel
theorem dX6_isSomebody_13 : decode cX6_isSomebody 13 = .ok (.iconst 0, 1) := by decide +kernel
theorem dX6_isSomebody_14 : decode cX6_isSomebody 14 = .ok (.ireturn, 1) := by decide +kernel
theorem dX6_adds_0 : decode cX6_adds 0 = .ok (.aload_n 0, 1) := by decide +kernel
theorem dX6_adds_1 : decode cX6_adds 1 = .ok (.getfield 7, 3) := by decide +kernel
theorem dX6_adds_4 : decode cX6_adds 4 = .ok (.iconst 1, 1) := by decide +kernel
theorem dX6_adds_5 : decode cX6_adds 5 = .ok (.iaload, 1) := by decide +kernel
theorem dX6_adds_6 : decode cX6_adds 6 = .ok (.istore_n 2, 1) := by decide +kernel
theorem dX6_adds_7 : decode cX6_adds 7 = .ok (.iconst 0, 1) := by decide +kernel
theorem dX6_adds_8 : decode cX6_adds 8 = .ok (.istore_n 3, 1) := by decide +kernel
theorem dX6_adds_9 : decode cX6_adds 9 = .ok (.iload_n 3, 1) := by decide +kernel
theorem dX6_adds_10 : decode cX6_adds 10 = .ok (.bipush 8, 2) := by decide +kernel
theorem dX6_adds_12 : decode cX6_adds 12 = .ok (.if_icmp .ge 20, 3) := by decide +kernel
theorem dX6_adds_15 : decode cX6_adds 15 = .ok (.aload_n 0, 1) := by decide +kernel
theorem dX6_adds_16 : decode cX6_adds 16 = .ok (.getfield 7, 3) := by decide +kernel
theorem dX6_adds_19 : decode cX6_adds 19 = .ok (.iload_n 2, 1) := by decide +kernel
theorem dX6_adds_20 : decode cX6_adds 20 = .ok (.iload_n 3, 1) := by decide +kernel
theorem dX6_adds_21 : decode cX6_adds 21 = .ok (.invokestatic 66, 3) := by decide +kernel
theorem dX6_adds_24 : decode cX6_adds 24 = .ok (.iconst 0, 1) := by decide +kernel
theorem dX6_adds_25 : decode cX6_adds 25 = .ok (.iastore, 1) := by decide +kernel
theorem dX6_adds_26 : decode cX6_adds 26 = .ok (.iinc 3 1, 3) := by decide +kernel
theorem dX6_adds_29 : decode cX6_adds 29 = .ok (.goto (-20), 3) := by decide +kernel
theorem dX6_adds_32 : decode cX6_adds 32 = .ok (.aload_n 0, 1) := by decide +kernel
theorem dX6_adds_33 : decode cX6_adds 33 = .ok (.getfield 7, 3) := by decide +kernel
theorem dX6_adds_36 : decode cX6_adds 36 = .ok (.iload_n 2, 1) := by decide +kernel
theorem dX6_adds_37 : decode cX6_adds 37 = .ok (.iconst 0, 1) := by decide +kernel
theorem dX6_adds_38 : decode cX6_adds 38 = .ok (.invokestatic 66, 3) := by decide +kernel
theorem dX6_adds_41 : decode cX6_adds 41 = .ok (.iload_n 1, 1) := by decide +kernel
theorem dX6_adds_42 : decode cX6_adds 42 = .ok (.iastore, 1) := by decide +kernel
theorem dX6_adds_43 : decode cX6_adds 43 = .ok (.aload_n 0, 1) := by decide +kernel
theorem dX6_adds_44 : decode cX6_adds 44 = .ok (.getfield 7, 3) := by decide +kernel
theorem dX6_adds_47 : decode cX6_adds 47 = .ok (.iload_n 2, 1) := by decide +kernel
theorem dX6_adds_48 : decode cX6_adds 48 = .ok (.iconst 1, 1) := by decide +kernel
theorem dX6_adds_49 : decode cX6_adds 49 = .ok (.invokestatic 66, 3) := by decide +kernel
theorem dX6_adds_52 : decode cX6_adds 52 = .ok (.iconst 3, 1) := by decide +kernel
theorem dX6_adds_53 : decode cX6_adds 53 = .ok (.iastore, 1) := by decide +kernel
theorem dX6_adds_54 : decode cX6_adds 54 = .ok (.aload_n 0, 1) := by decide +kernel
theorem dX6_adds_55 : decode cX6_adds 55 = .ok (.getfield 7, 3) := by decide +kernel
theorem dX6_adds_58 : decode cX6_adds 58 = .ok (.iconst 1, 1) := by decide +kernel
theorem dX6_adds_59 : decode cX6_adds 59 = .ok (.dup2, 1) := by decide +kernel
theorem dX6_adds_60 : decode cX6_adds 60 = .ok (.iaload, 1) := by decide +kernel
theorem dX6_adds_61 : decode cX6_adds 61 = .ok (.iconst 1, 1) := by decide +kernel
theorem dX6_adds_62 : decode cX6_adds 62 = .ok (.iadd, 1) := by decide +kernel
theorem dX6_adds_63 : decode cX6_adds 63 = .ok (.iastore, 1) := by decide +kernel
theorem dX6_adds_64 : decode cX6_adds 64 = .ok (.iload_n 2, 1) := by decide +kernel
theorem dX6_adds_65 : decode cX6_adds 65 = .ok (.ireturn, 1) := by decide +kernel
theorem dX6_person_0 : decode cX6_person 0 = .ok (.iload_n 1, 1) := by decide +kernel
theorem dX6_person_1 : decode cX6_person 1 = .ok (.invokestatic 70, 3) := by decide +kernel
theorem dX6_person_4 : decode cX6_person 4 = .ok (.ifCond .ne 10, 3) := by decide +kernel
theorem dX6_person_7 : decode cX6_person 7 = .ok (.aload_n 0, 1) := by decide +kernel
theorem dX6_person_8 : decode cX6_person 8 = .ok (.ldc 49, 2) := by decide +kernel
theorem dX6_person_10 : decode cX6_person 10 = .ok (.invokevirtual 73, 3) := by decide +kernel
theorem dX6_person_13 : decode cX6_person 13 = .ok (.ireturn, 1) := by decide +kernel
theorem dX6_person_14 : decode cX6_person 14 = .ok (.aload_n 0, 1) := by decide +kernel
theorem dX6_person_15 : decode cX6_person 15 = .ok (.getfield 7, 3) := by decide +kernel
theorem dX6_person_18 : decode cX6_person 18 = .ok (.iconst 1, 1) := by decide +kernel
theorem dX6_person_19 : decode cX6_person 19 = .ok (.iaload, 1) := by decide +kernel
theorem dX6_person_20 : decode cX6_person 20 = .ok (.bipush 8, 2) := by decide +kernel
theorem dX6_person_22 : decode cX6_person 22 = .ok (.if_icmp .ne 12, 3) := by decide +kernel
theorem dX6_person_25 : decode cX6_person 25 = .ok (.aload_n 0, 1) := by decide +kernel
theorem dX6_person_26 : decode cX6_person 26 = .ok (.ldc 77, 2) := by decide +kernel
theorem dX6_person_28 : decode cX6_person 28 = .ok (.invokevirtual 73, 3) := by decide +kernel
theorem dX6_person_31 : decode cX6_person 31 = .ok (.goto 8, 3) := by decide +kernel
theorem dX6_person_34 : decode cX6_person 34 = .ok (.aload_n 0, 1) := by decide +kernel
theorem dX6_person_35 : decode cX6_person 35 = .ok (.iload_n 1, 1) := by decide +kernel
theorem dX6_person_36 : decode cX6_person 36 = .ok (.invokevirtual 78, 3) := by decide +kernel
theorem dX6_person_39 : decode cX6_person 39 = .ok (.ireturn, 1) := by decide +kernel
theorem dX6_of_0 : decode cX6_of 0 = .ok (.aload_n 0, 1) := by decide +kernel
theorem dX6_of_1 : decode cX6_of 1 = .ok (.iload_n 1, 1) := by decide +kernel
theorem dX6_of_2 : decode cX6_of 2 = .ok (.invokevirtual 56, 3) := by decide +kernel
theorem dX6_of_5 : decode cX6_of 5 = .ok (.ifCond .eq 15, 3) := by decide +kernel
theorem dX6_of_8 : decode cX6_of 8 = .ok (.iload_n 2, 1) := by decide +kernel
theorem dX6_of_9 : decode cX6_of 9 = .ok (.i2l, 1) := by decide +kernel
theorem dX6_of_10 : decode cX6_of 10 = .ok (.lconst 0, 1) := by decide +kernel
theorem dX6_of_11 : decode cX6_of 11 = .ok (.ldc2_w 81, 3) := by decide +kernel
theorem dX6_of_14 : decode cX6_of 14 = .ok (.invokestatic 52, 3) := by decide +kernel
theorem dX6_of_17 : decode cX6_of 17 = .ok (.ifCond .ne 10, 3) := by decide +kernel
theorem dX6_of_20 : decode cX6_of 20 = .ok (.aload_n 0, 1) := by decide +kernel
theorem dX6_of_21 : decode cX6_of 21 = .ok (.ldc 49, 2) := by decide +kernel
theorem dX6_of_23 : decode cX6_of 23 = .ok (.invokevirtual 73, 3) := by decide +kernel
theorem dX6_of_26 : decode cX6_of 26 = .ok (.ireturn, 1) := by decide +kernel
theorem dX6_of_27 : decode cX6_of 27 = .ok (.iload_n 2, 1) := by decide +kernel
theorem dX6_of_28 : decode cX6_of 28 = .ok (.bipush 8, 2) := by decide +kernel
theorem dX6_of_30 : decode cX6_of 30 = .ok (.if_icmp .ge 12, 3) := by decide +kernel
theorem dX6_of_33 : decode cX6_of 33 = .ok (.aload_n 0, 1) := by decide +kernel
theorem dX6_of_34 : decode cX6_of 34 = .ok (.iload_n 1, 1) := by decide +kernel
theorem dX6_of_35 : decode cX6_of 35 = .ok (.iload_n 2, 1) := by decide +kernel
theorem dX6_of_36 : decode cX6_of 36 = .ok (.invokevirtual 83, 3) := by decide +kernel
theorem dX6_of_39 : decode cX6_of 39 = .ok (.goto 29, 3) := by decide +kernel
theorem dX6_of_42 : decode cX6_of 42 = .ok (.iload_n 1, 1) := by decide +kernel
theorem dX6_of_43 : decode cX6_of 43 = .ok (.aload_n 0, 1) := by decide +kernel
theorem dX6_of_44 : decode cX6_of 44 = .ok (.getfield 7, 3) := by decide +kernel
theorem dX6_of_47 : decode cX6_of 47 = .ok (.iconst 5, 1) := by decide +kernel
theorem dX6_of_48 : decode cX6_of 48 = .ok (.iaload, 1) := by decide +kernel
theorem dX6_of_49 : decode cX6_of 49 = .ok (.if_icmp .eq 14, 3) := by decide +kernel
theorem dX6_of_52 : decode cX6_of 52 = .ok (.iload_n 1, 1) := by decide +kernel
theorem dX6_of_53 : decode cX6_of 53 = .ok (.aload_n 0, 1) := by decide +kernel
theorem dX6_of_54 : decode cX6_of 54 = .ok (.getfield 7, 3) := by decide +kernel
theorem dX6_of_57 : decode cX6_of 57 = .ok (.bipush 6, 2) := by decide +kernel
theorem dX6_of_59 : decode cX6_of 59 = .ok (.iaload, 1) := by decide +kernel
theorem dX6_of_60 : decode cX6_of 60 = .ok (.if_icmp .ne 7, 3) := by decide +kernel
theorem dX6_of_63 : decode cX6_of 63 = .ok (.iconst 1, 1) := by decide +kernel
theorem dX6_of_64 : decode cX6_of 64 = .ok (.goto 4, 3) := by decide +kernel
theorem dX6_of_67 : decode cX6_of 67 = .ok (.iconst 0, 1) := by decide +kernel
theorem dX6_of_68 : decode cX6_of 68 = .ok (.ireturn, 1) := by decide +kernel
theorem dX6_change_0 : decode cX6_change 0 = .ok (.iload_n 2, 1) := by decide +kernel
theorem dX6_change_1 : decode cX6_change 1 = .ok (.ifCond .ne 10, 3) := by decide +kernel
theorem dX6_change_4 : decode cX6_change 4 = .ok (.iload_n 3, 1) := by decide +kernel
theorem dX6_change_5 : decode cX6_change 5 = .ok (.invokestatic 70, 3) := by decide +kernel
theorem dX6_change_8 : decode cX6_change 8 = .ok (.goto 46, 3) := by decide +kernel
theorem dX6_change_11 : decode cX6_change 11 = .ok (.iload_n 2, 1) := by decide +kernel
theorem dX6_change_12 : decode cX6_change 12 = .ok (.iconst 1, 1) := by decide +kernel
theorem dX6_change_13 : decode cX6_change 13 = .ok (.if_icmp .ne 15, 3) := by decide +kernel
theorem dX6_change_16 : decode cX6_change 16 = .ok (.iload_n 3, 1) := by decide +kernel
theorem dX6_change_17 : decode cX6_change 17 = .ok (.i2l, 1) := by decide +kernel
theorem dX6_change_18 : decode cX6_change 18 = .ok (.lconst 0, 1) := by decide +kernel
theorem dX6_change_19 : decode cX6_change 19 = .ok (.ldc2_w 64, 3) := by decide +kernel
theorem dX6_change_22 : decode cX6_change 22 = .ok (.invokestatic 52, 3) := by decide +kernel
theorem dX6_change_25 : decode cX6_change 25 = .ok (.goto 29, 3) := by decide +kernel
theorem dX6_change_28 : decode cX6_change 28 = .ok (.iload_n 2, 1) := by decide +kernel
theorem dX6_change_29 : decode cX6_change 29 = .ok (.i2l, 1) := by decide +kernel
theorem dX6_change_30 : decode cX6_change 30 = .ok (.ldc2_w 86, 3) := by decide +kernel
theorem dX6_change_33 : decode cX6_change 33 = .ok (.ldc2_w 88, 3) := by decide +kernel
theorem dX6_change_36 : decode cX6_change 36 = .ok (.invokestatic 52, 3) := by decide +kernel
theorem dX6_change_39 : decode cX6_change 39 = .ok (.ifCond .eq 14, 3) := by decide +kernel
theorem dX6_change_42 : decode cX6_change 42 = .ok (.iload_n 3, 1) := by decide +kernel
theorem dX6_change_43 : decode cX6_change 43 = .ok (.invokestatic 90, 3) := by decide +kernel
theorem dX6_change_46 : decode cX6_change 46 = .ok (.ifCond .eq 7, 3) := by decide +kernel
theorem dX6_change_49 : decode cX6_change 49 = .ok (.iconst 1, 1) := by decide +kernel
theorem dX6_change_50 : decode cX6_change 50 = .ok (.goto 4, 3) := by decide +kernel
theorem dX6_change_53 : decode cX6_change 53 = .ok (.iconst 0, 1) := by decide +kernel
theorem dX6_change_54 : decode cX6_change 54 = .ok (.istore 4, 2) := by decide +kernel
theorem dX6_change_56 : decode cX6_change 56 = .ok (.aload_n 0, 1) := by decide +kernel
theorem dX6_change_57 : decode cX6_change 57 = .ok (.iload_n 1, 1) := by decide +kernel
theorem dX6_change_58 : decode cX6_change 58 = .ok (.invokevirtual 56, 3) := by decide +kernel
theorem dX6_change_61 : decode cX6_change 61 = .ok (.ifCond .eq 21, 3) := by decide +kernel
theorem dX6_change_64 : decode cX6_change 64 = .ok (.iload 4, 2) := by decide +kernel
theorem dX6_change_66 : decode cX6_change 66 = .ok (.ifCond .eq 16, 3) := by decide +kernel
theorem dX6_change_69 : decode cX6_change 69 = .ok (.aload_n 0, 1) := by decide +kernel
theorem dX6_change_70 : decode cX6_change 70 = .ok (.iload_n 1, 1) := by decide +kernel
theorem dX6_change_71 : decode cX6_change 71 = .ok (.iload_n 2, 1) := by decide +kernel
theorem dX6_change_72 : decode cX6_change 72 = .ok (.invokestatic 66, 3) := by decide +kernel
theorem dX6_change_75 : decode cX6_change 75 = .ok (.iload_n 3, 1) := by decide +kernel
theorem dX6_change_76 : decode cX6_change 76 = .ok (.invokevirtual 93, 3) := by decide +kernel
theorem dX6_change_79 : decode cX6_change 79 = .ok (.goto 9, 3) := by decide +kernel
theorem dX6_change_82 : decode cX6_change 82 = .ok (.aload_n 0, 1) := by decide +kernel
theorem dX6_change_83 : decode cX6_change 83 = .ok (.ldc 49, 2) := by decide +kernel
theorem dX6_change_85 : decode cX6_change 85 = .ok (.invokevirtual 73, 3) := by decide +kernel
theorem dX6_change_88 : decode cX6_change 88 = .ok (.ireturn, 1) := by decide +kernel
theorem dX6_moves_0 : decode cX6_moves 0 = .ok (.aload_n 0, 1) := by decide +kernel
theorem dX6_moves_1 : decode cX6_moves 1 = .ok (.getfield 7, 3) := by decide +kernel
theorem dX6_moves_4 : decode cX6_moves 4 = .ok (.iconst 0, 1) := by decide +kernel
theorem dX6_moves_5 : decode cX6_moves 5 = .ok (.iaload, 1) := by decide +kernel
theorem dX6_moves_6 : decode cX6_moves 6 = .ok (.iconst 2, 1) := by decide +kernel
theorem dX6_moves_7 : decode cX6_moves 7 = .ok (.irem, 1) := by decide +kernel
theorem dX6_moves_8 : decode cX6_moves 8 = .ok (.ifCond .ne 7, 3) := by decide +kernel
theorem dX6_moves_11 : decode cX6_moves 11 = .ok (.iconst (-1), 1) := by decide +kernel
theorem dX6_moves_12 : decode cX6_moves 12 = .ok (.goto 4, 3) := by decide +kernel
theorem dX6_moves_15 : decode cX6_moves 15 = .ok (.iconst 1, 1) := by decide +kernel
theorem dX6_moves_16 : decode cX6_moves 16 = .ok (.istore_n 3, 1) := by decide +kernel
theorem dX6_moves_17 : decode cX6_moves 17 = .ok (.aload_n 0, 1) := by decide +kernel
theorem dX6_moves_18 : decode cX6_moves 18 = .ok (.iload_n 1, 1) := by decide +kernel
theorem dX6_moves_19 : decode cX6_moves 19 = .ok (.iconst 0, 1) := by decide +kernel
theorem dX6_moves_20 : decode cX6_moves 20 = .ok (.invokevirtual 83, 3) := by decide +kernel
theorem dX6_moves_23 : decode cX6_moves 23 = .ok (.tableswitch 62 1 6 #[37, 39, 41, 43, 56, 58], 37) := by decide +kernel
theorem dX6_moves_60 : decode cX6_moves 60 = .ok (.iconst 0, 1) := by decide +kernel
theorem dX6_moves_61 : decode cX6_moves 61 = .ok (.ireturn, 1) := by decide +kernel
theorem dX6_moves_62 : decode cX6_moves 62 = .ok (.iconst (-1), 1) := by decide +kernel
theorem dX6_moves_63 : decode cX6_moves 63 = .ok (.ireturn, 1) := by decide +kernel
theorem dX6_moves_64 : decode cX6_moves 64 = .ok (.iload_n 3, 1) := by decide +kernel
theorem dX6_moves_65 : decode cX6_moves 65 = .ok (.ireturn, 1) := by decide +kernel
theorem dX6_moves_66 : decode cX6_moves 66 = .ok (.iload_n 2, 1) := by decide +kernel
theorem dX6_moves_67 : decode cX6_moves 67 = .ok (.iconst 5, 1) := by decide +kernel
theorem dX6_moves_68 : decode cX6_moves 68 = .ok (.if_icmp .le 9, 3) := by decide +kernel
theorem dX6_moves_71 : decode cX6_moves 71 = .ok (.iload_n 3, 1) := by decide +kernel
theorem dX6_moves_72 : decode cX6_moves 72 = .ok (.iconst 1, 1) := by decide +kernel
theorem dX6_moves_73 : decode cX6_moves 73 = .ok (.iadd, 1) := by decide +kernel
theorem dX6_moves_74 : decode cX6_moves 74 = .ok (.goto 4, 3) := by decide +kernel
theorem dX6_moves_77 : decode cX6_moves 77 = .ok (.iload_n 3, 1) := by decide +kernel
theorem dX6_moves_78 : decode cX6_moves 78 = .ok (.ireturn, 1) := by decide +kernel
theorem dX6_moves_79 : decode cX6_moves 79 = .ok (.iload_n 2, 1) := by decide +kernel
theorem dX6_moves_80 : decode cX6_moves 80 = .ok (.ireturn, 1) := by decide +kernel
theorem dX6_moves_81 : decode cX6_moves 81 = .ok (.iload_n 2, 1) := by decide +kernel
theorem dX6_moves_82 : decode cX6_moves 82 = .ok (.iconst 2, 1) := by decide +kernel
theorem dX6_moves_83 : decode cX6_moves 83 = .ok (.idiv, 1) := by decide +kernel
theorem dX6_moves_84 : decode cX6_moves 84 = .ok (.ireturn, 1) := by decide +kernel
theorem dX6_moves_85 : decode cX6_moves 85 = .ok (.iconst 1, 1) := by decide +kernel
theorem dX6_moves_86 : decode cX6_moves 86 = .ok (.ireturn, 1) := by decide +kernel
theorem dX6_strokes_0 : decode cX6_strokes 0 = .ok (.aload_n 0, 1) := by decide +kernel
theorem dX6_strokes_1 : decode cX6_strokes 1 = .ok (.iload_n 1, 1) := by decide +kernel
theorem dX6_strokes_2 : decode cX6_strokes 2 = .ok (.iconst 1, 1) := by decide +kernel
theorem dX6_strokes_3 : decode cX6_strokes 3 = .ok (.invokevirtual 83, 3) := by decide +kernel
theorem dX6_strokes_6 : decode cX6_strokes 6 = .ok (.istore_n 3, 1) := by decide +kernel
theorem dX6_strokes_7 : decode cX6_strokes 7 = .ok (.iload_n 3, 1) := by decide +kernel
theorem dX6_strokes_8 : decode cX6_strokes 8 = .ok (.iload_n 2, 1) := by decide +kernel
theorem dX6_strokes_9 : decode cX6_strokes 9 = .ok (.iadd, 1) := by decide +kernel
theorem dX6_strokes_10 : decode cX6_strokes 10 = .ok (.iconst 1, 1) := by decide +kernel
theorem dX6_strokes_11 : decode cX6_strokes 11 = .ok (.if_icmp .le 11, 3) := by decide +kernel
theorem dX6_strokes_14 : decode cX6_strokes 14 = .ok (.iload_n 3, 1) := by decide +kernel
theorem dX6_strokes_15 : decode cX6_strokes 15 = .ok (.iload_n 2, 1) := by decide +kernel
theorem dX6_strokes_16 : decode cX6_strokes 16 = .ok (.iadd, 1) := by decide +kernel
theorem dX6_strokes_17 : decode cX6_strokes 17 = .ok (.iconst 1, 1) := by decide +kernel
theorem dX6_strokes_18 : decode cX6_strokes 18 = .ok (.isub, 1) := by decide +kernel
theorem dX6_strokes_19 : decode cX6_strokes 19 = .ok (.goto 4, 3) := by decide +kernel
theorem dX6_strokes_22 : decode cX6_strokes 22 = .ok (.iconst 0, 1) := by decide +kernel
theorem dX6_strokes_23 : decode cX6_strokes 23 = .ok (.istore 4, 2) := by decide +kernel
theorem dX6_strokes_25 : decode cX6_strokes 25 = .ok (.aload_n 0, 1) := by decide +kernel
theorem dX6_strokes_26 : decode cX6_strokes 26 = .ok (.iload_n 1, 1) := by decide +kernel
theorem dX6_strokes_27 : decode cX6_strokes 27 = .ok (.iconst 0, 1) := by decide +kernel
theorem dX6_strokes_28 : decode cX6_strokes 28 = .ok (.invokevirtual 83, 3) := by decide +kernel
theorem dX6_strokes_31 : decode cX6_strokes 31 = .ok (.tableswitch 80 1 6 #[37, 41, 45, 48, 53, 74], 37) := by decide +kernel
theorem dX6_strokes_68 : decode cX6_strokes 68 = .ok (.iload_n 3, 1) := by decide +kernel
theorem dX6_strokes_69 : decode cX6_strokes 69 = .ok (.iconst 2, 1) := by decide +kernel
theorem dX6_strokes_70 : decode cX6_strokes 70 = .ok (.iadd, 1) := by decide +kernel
theorem dX6_strokes_71 : decode cX6_strokes 71 = .ok (.ireturn, 1) := by decide +kernel
theorem dX6_strokes_72 : decode cX6_strokes 72 = .ok (.iload_n 3, 1) := by decide +kernel
theorem dX6_strokes_73 : decode cX6_strokes 73 = .ok (.iload_n 2, 1) := by decide +kernel
theorem dX6_strokes_74 : decode cX6_strokes 74 = .ok (.iadd, 1) := by decide +kernel
theorem dX6_strokes_75 : decode cX6_strokes 75 = .ok (.ireturn, 1) := by decide +kernel
theorem dX6_strokes_76 : decode cX6_strokes 76 = .ok (.iload 4, 2) := by decide +kernel
theorem dX6_strokes_78 : decode cX6_strokes 78 = .ok (.ireturn, 1) := by decide +kernel
theorem dX6_strokes_79 : decode cX6_strokes 79 = .ok (.iconst 2, 1) := by decide +kernel
theorem dX6_strokes_80 : decode cX6_strokes 80 = .ok (.iload 4, 2) := by decide +kernel
theorem dX6_strokes_82 : decode cX6_strokes 82 = .ok (.imul, 1) := by decide +kernel
theorem dX6_strokes_83 : decode cX6_strokes 83 = .ok (.ireturn, 1) := by decide +kernel
theorem dX6_strokes_84 : decode cX6_strokes 84 = .ok (.aload_n 0, 1) := by decide +kernel
theorem dX6_strokes_85 : decode cX6_strokes 85 = .ok (.getfield 7, 3) := by decide +kernel
theorem dX6_strokes_88 : decode cX6_strokes 88 = .ok (.iconst 0, 1) := by decide +kernel
theorem dX6_strokes_89 : decode cX6_strokes 89 = .ok (.iaload, 1) := by decide +kernel
theorem dX6_strokes_90 : decode cX6_strokes 90 = .ok (.bipush 7, 2) := by decide +kernel
theorem dX6_strokes_92 : decode cX6_strokes 92 = .ok (.irem, 1) := by decide +kernel
theorem dX6_strokes_93 : decode cX6_strokes 93 = .ok (.ifCond .ne 10, 3) := by decide +kernel
theorem dX6_strokes_96 : decode cX6_strokes 96 = .ok (.iload_n 3, 1) := by decide +kernel
theorem dX6_strokes_97 : decode cX6_strokes 97 = .ok (.bipush 10, 2) := by decide +kernel
theorem dX6_strokes_99 : decode cX6_strokes 99 = .ok (.iadd, 1) := by decide +kernel
theorem dX6_strokes_100 : decode cX6_strokes 100 = .ok (.goto 4, 3) := by decide +kernel
theorem dX6_strokes_103 : decode cX6_strokes 103 = .ok (.iload_n 3, 1) := by decide +kernel
theorem dX6_strokes_104 : decode cX6_strokes 104 = .ok (.ireturn, 1) := by decide +kernel
theorem dX6_strokes_105 : decode cX6_strokes 105 = .ok (.iload_n 3, 1) := by decide +kernel
theorem dX6_strokes_106 : decode cX6_strokes 106 = .ok (.iconst 2, 1) := by decide +kernel
theorem dX6_strokes_107 : decode cX6_strokes 107 = .ok (.iadd, 1) := by decide +kernel
theorem dX6_strokes_108 : decode cX6_strokes 108 = .ok (.iconst 2, 1) := by decide +kernel
theorem dX6_strokes_109 : decode cX6_strokes 109 = .ok (.idiv, 1) := by decide +kernel
theorem dX6_strokes_110 : decode cX6_strokes 110 = .ok (.ireturn, 1) := by decide +kernel
theorem dX6_strokes_111 : decode cX6_strokes 111 = .ok (.iload_n 3, 1) := by decide +kernel
theorem dX6_strokes_112 : decode cX6_strokes 112 = .ok (.ireturn, 1) := by decide +kernel
theorem dX6_reply_0 : decode cX6_reply 0 = .ok (.aload_n 0, 1) := by decide +kernel
theorem dX6_reply_1 : decode cX6_reply 1 = .ok (.iload_n 1, 1) := by decide +kernel
theorem dX6_reply_2 : decode cX6_reply 2 = .ok (.invokevirtual 56, 3) := by decide +kernel
theorem dX6_reply_5 : decode cX6_reply 5 = .ok (.ifCond .eq 25, 3) := by decide +kernel
theorem dX6_reply_8 : decode cX6_reply 8 = .ok (.iload_n 2, 1) := by decide +kernel
theorem dX6_reply_9 : decode cX6_reply 9 = .ok (.i2l, 1) := by decide +kernel
theorem dX6_reply_10 : decode cX6_reply 10 = .ok (.lconst 1, 1) := by decide +kernel
theorem dX6_reply_11 : decode cX6_reply 11 = .ok (.ldc2_w 96, 3) := by decide +kernel
theorem dX6_reply_14 : decode cX6_reply 14 = .ok (.invokestatic 52, 3) := by decide +kernel
theorem dX6_reply_17 : decode cX6_reply 17 = .ok (.ifCond .eq 13, 3) := by decide +kernel
theorem dX6_reply_20 : decode cX6_reply 20 = .ok (.iload_n 3, 1) := by decide +kernel
theorem dX6_reply_21 : decode cX6_reply 21 = .ok (.i2l, 1) := by decide +kernel
theorem dX6_reply_22 : decode cX6_reply 22 = .ok (.lconst 0, 1) := by decide +kernel
theorem dX6_reply_23 : decode cX6_reply 23 = .ok (.lconst 1, 1) := by decide +kernel
theorem dX6_reply_24 : decode cX6_reply 24 = .ok (.invokestatic 52, 3) := by decide +kernel
theorem dX6_reply_27 : decode cX6_reply 27 = .ok (.ifCond .ne 10, 3) := by decide +kernel
theorem dX6_reply_30 : decode cX6_reply 30 = .ok (.aload_n 0, 1) := by decide +kernel
theorem dX6_reply_31 : decode cX6_reply 31 = .ok (.ldc 49, 2) := by decide +kernel
theorem dX6_reply_33 : decode cX6_reply 33 = .ok (.invokevirtual 73, 3) := by decide +kernel
theorem dX6_reply_36 : decode cX6_reply 36 = .ok (.ireturn, 1) := by decide +kernel
theorem dX6_reply_37 : decode cX6_reply 37 = .ok (.iload_n 3, 1) := by decide +kernel
theorem dX6_reply_38 : decode cX6_reply 38 = .ok (.ifCond .ne 12, 3) := by decide +kernel
theorem dX6_reply_41 : decode cX6_reply 41 = .ok (.aload_n 0, 1) := by decide +kernel
theorem dX6_reply_42 : decode cX6_reply 42 = .ok (.iload_n 1, 1) := by decide +kernel
theorem dX6_reply_43 : decode cX6_reply 43 = .ok (.iload_n 2, 1) := by decide +kernel
theorem dX6_reply_44 : decode cX6_reply 44 = .ok (.invokevirtual 98, 3) := by decide +kernel
theorem dX6_reply_47 : decode cX6_reply 47 = .ok (.goto 9, 3) := by decide +kernel
theorem dX6_reply_50 : decode cX6_reply 50 = .ok (.aload_n 0, 1) := by decide +kernel
theorem dX6_reply_51 : decode cX6_reply 51 = .ok (.iload_n 1, 1) := by decide +kernel
theorem dX6_reply_52 : decode cX6_reply 52 = .ok (.iload_n 2, 1) := by decide +kernel
theorem dX6_reply_53 : decode cX6_reply 53 = .ok (.invokevirtual 101, 3) := by decide +kernel
theorem dX6_reply_56 : decode cX6_reply 56 = .ok (.ireturn, 1) := by decide +kernel
theorem dX6_apartOn_0 : decode cX6_apartOn 0 = .ok (.aload_n 0, 1) := by decide +kernel
theorem dX6_apartOn_1 : decode cX6_apartOn 1 = .ok (.iload_n 1, 1) := by decide +kernel
theorem dX6_apartOn_2 : decode cX6_apartOn 2 = .ok (.iconst 2, 1) := by decide +kernel
theorem dX6_apartOn_3 : decode cX6_apartOn 3 = .ok (.iload_n 3, 1) := by decide +kernel
theorem dX6_apartOn_4 : decode cX6_apartOn 4 = .ok (.iadd, 1) := by decide +kernel
theorem dX6_apartOn_5 : decode cX6_apartOn 5 = .ok (.invokevirtual 83, 3) := by decide +kernel
theorem dX6_apartOn_8 : decode cX6_apartOn 8 = .ok (.aload_n 0, 1) := by decide +kernel
theorem dX6_apartOn_9 : decode cX6_apartOn 9 = .ok (.iload_n 2, 1) := by decide +kernel
theorem dX6_apartOn_10 : decode cX6_apartOn 10 = .ok (.iconst 2, 1) := by decide +kernel
theorem dX6_apartOn_11 : decode cX6_apartOn 11 = .ok (.iload_n 3, 1) := by decide +kernel
theorem dX6_apartOn_12 : decode cX6_apartOn 12 = .ok (.iadd, 1) := by decide +kernel
theorem dX6_apartOn_13 : decode cX6_apartOn 13 = .ok (.invokevirtual 83, 3) := by decide +kernel
theorem dX6_apartOn_16 : decode cX6_apartOn 16 = .ok (.isub, 1) := by decide +kernel
theorem dX6_apartOn_17 : decode cX6_apartOn 17 = .ok (.istore 4, 2) := by decide +kernel
theorem dX6_apartOn_19 : decode cX6_apartOn 19 = .ok (.iload 4, 2) := by decide +kernel
theorem dX6_apartOn_21 : decode cX6_apartOn 21 = .ok (.ifCond .ge 9, 3) := by decide +kernel
theorem dX6_apartOn_24 : decode cX6_apartOn 24 = .ok (.iload 4, 2) := by decide +kernel
theorem dX6_apartOn_26 : decode cX6_apartOn 26 = .ok (.ineg, 1) := by decide +kernel
theorem dX6_apartOn_27 : decode cX6_apartOn 27 = .ok (.goto 5, 3) := by decide +kernel
theorem dX6_apartOn_30 : decode cX6_apartOn 30 = .ok (.iload 4, 2) := by decide +kernel
theorem dX6_apartOn_32 : decode cX6_apartOn 32 = .ok (.ireturn, 1) := by decide +kernel
theorem dX6_apart_0 : decode cX6_apart 0 = .ok (.aload_n 0, 1) := by decide +kernel
theorem dX6_apart_1 : decode cX6_apart 1 = .ok (.iload_n 1, 1) := by decide +kernel
theorem dX6_apart_2 : decode cX6_apart 2 = .ok (.invokevirtual 56, 3) := by decide +kernel
theorem dX6_apart_5 : decode cX6_apart 5 = .ok (.ifCond .eq 28, 3) := by decide +kernel
theorem dX6_apart_8 : decode cX6_apart 8 = .ok (.aload_n 0, 1) := by decide +kernel
theorem dX6_apart_9 : decode cX6_apart 9 = .ok (.iload_n 2, 1) := by decide +kernel
theorem dX6_apart_10 : decode cX6_apart 10 = .ok (.invokevirtual 56, 3) := by decide +kernel
theorem dX6_apart_13 : decode cX6_apart 13 = .ok (.ifCond .eq 20, 3) := by decide +kernel
theorem dX6_apart_16 : decode cX6_apart 16 = .ok (.iload_n 3, 1) := by decide +kernel
theorem dX6_apart_17 : decode cX6_apart 17 = .ok (.invokestatic 104, 3) := by decide +kernel
theorem dX6_apart_20 : decode cX6_apart 20 = .ok (.ifCond .eq 13, 3) := by decide +kernel
theorem dX6_apart_23 : decode cX6_apart 23 = .ok (.aload_n 0, 1) := by decide +kernel
theorem dX6_apart_24 : decode cX6_apart 24 = .ok (.iload_n 1, 1) := by decide +kernel
theorem dX6_apart_25 : decode cX6_apart 25 = .ok (.iload_n 2, 1) := by decide +kernel
theorem dX6_apart_26 : decode cX6_apart 26 = .ok (.iload_n 3, 1) := by decide +kernel
theorem dX6_apart_27 : decode cX6_apart 27 = .ok (.invokevirtual 107, 3) := by decide +kernel
theorem dX6_apart_30 : decode cX6_apart 30 = .ok (.goto 9, 3) := by decide +kernel
theorem dX6_apart_33 : decode cX6_apart 33 = .ok (.aload_n 0, 1) := by decide +kernel
theorem dX6_apart_34 : decode cX6_apart 34 = .ok (.ldc 49, 2) := by decide +kernel
theorem dX6_apart_36 : decode cX6_apart 36 = .ok (.invokevirtual 73, 3) := by decide +kernel
theorem dX6_apart_39 : decode cX6_apart 39 = .ok (.ireturn, 1) := by decide +kernel
theorem dX6_disputed_0 : decode cX6_disputed 0 = .ok (.iconst 0, 1) := by decide +kernel
theorem dX6_disputed_1 : decode cX6_disputed 1 = .ok (.istore_n 1, 1) := by decide +kernel
theorem dX6_disputed_2 : decode cX6_disputed 2 = .ok (.iconst 0, 1) := by decide +kernel
theorem dX6_disputed_3 : decode cX6_disputed 3 = .ok (.istore_n 2, 1) := by decide +kernel
theorem dX6_disputed_4 : decode cX6_disputed 4 = .ok (.iload_n 2, 1) := by decide +kernel
theorem dX6_disputed_5 : decode cX6_disputed 5 = .ok (.bipush 6, 2) := by decide +kernel
theorem dX6_disputed_7 : decode cX6_disputed 7 = .ok (.if_icmp .ge 47, 3) := by decide +kernel
theorem dX6_disputed_10 : decode cX6_disputed 10 = .ok (.aload_n 0, 1) := by decide +kernel
theorem dX6_disputed_11 : decode cX6_disputed 11 = .ok (.invokevirtual 111, 3) := by decide +kernel
theorem dX6_disputed_14 : decode cX6_disputed 14 = .ok (.ifCond .eq 40, 3) := by decide +kernel
theorem dX6_disputed_17 : decode cX6_disputed 17 = .ok (.iload_n 1, 1) := by decide +kernel
theorem dX6_disputed_18 : decode cX6_disputed 18 = .ok (.aload_n 0, 1) := by decide +kernel
theorem dX6_disputed_19 : decode cX6_disputed 19 = .ok (.aload_n 0, 1) := by decide +kernel
theorem dX6_disputed_20 : decode cX6_disputed 20 = .ok (.getfield 7, 3) := by decide +kernel
theorem dX6_disputed_23 : decode cX6_disputed 23 = .ok (.iconst 5, 1) := by decide +kernel
theorem dX6_disputed_24 : decode cX6_disputed 24 = .ok (.iaload, 1) := by decide +kernel
theorem dX6_disputed_25 : decode cX6_disputed 25 = .ok (.aload_n 0, 1) := by decide +kernel
theorem dX6_disputed_26 : decode cX6_disputed 26 = .ok (.getfield 7, 3) := by decide +kernel
theorem dX6_disputed_29 : decode cX6_disputed 29 = .ok (.bipush 6, 2) := by decide +kernel
theorem dX6_disputed_31 : decode cX6_disputed 31 = .ok (.iaload, 1) := by decide +kernel
theorem dX6_disputed_32 : decode cX6_disputed 32 = .ok (.iload_n 2, 1) := by decide +kernel
theorem dX6_disputed_33 : decode cX6_disputed 33 = .ok (.invokevirtual 107, 3) := by decide +kernel
theorem dX6_disputed_36 : decode cX6_disputed 36 = .ok (.ifCond .le 9, 3) := by decide +kernel
theorem dX6_disputed_39 : decode cX6_disputed 39 = .ok (.iconst 1, 1) := by decide +kernel
theorem dX6_disputed_40 : decode cX6_disputed 40 = .ok (.iload_n 2, 1) := by decide +kernel
theorem dX6_disputed_41 : decode cX6_disputed 41 = .ok (.ishl, 1) := by decide +kernel
theorem dX6_disputed_42 : decode cX6_disputed 42 = .ok (.goto 4, 3) := by decide +kernel
theorem dX6_disputed_45 : decode cX6_disputed 45 = .ok (.iconst 0, 1) := by decide +kernel
theorem dX6_disputed_46 : decode cX6_disputed 46 = .ok (.ior, 1) := by decide +kernel
theorem dX6_disputed_47 : decode cX6_disputed 47 = .ok (.istore_n 1, 1) := by decide +kernel
theorem dX6_disputed_48 : decode cX6_disputed 48 = .ok (.iinc 2 1, 3) := by decide +kernel
theorem dX6_disputed_51 : decode cX6_disputed 51 = .ok (.goto (-47), 3) := by decide +kernel
theorem dX6_disputed_54 : decode cX6_disputed 54 = .ok (.iload_n 1, 1) := by decide +kernel
theorem dX6_disputed_55 : decode cX6_disputed 55 = .ok (.ireturn, 1) := by decide +kernel
theorem dX6_ones_0 : decode cX6_ones 0 = .ok (.iconst 0, 1) := by decide +kernel
theorem dX6_ones_1 : decode cX6_ones 1 = .ok (.istore_n 1, 1) := by decide +kernel
theorem dX6_ones_2 : decode cX6_ones 2 = .ok (.iload_n 0, 1) := by decide +kernel
theorem dX6_ones_3 : decode cX6_ones 3 = .ok (.istore_n 2, 1) := by decide +kernel
theorem dX6_ones_4 : decode cX6_ones 4 = .ok (.iload_n 2, 1) := by decide +kernel
theorem dX6_ones_5 : decode cX6_ones 5 = .ok (.ifCond .eq 15, 3) := by decide +kernel
theorem dX6_ones_8 : decode cX6_ones 8 = .ok (.iinc 1 1, 3) := by decide +kernel
theorem dX6_ones_11 : decode cX6_ones 11 = .ok (.iload_n 2, 1) := by decide +kernel
theorem dX6_ones_12 : decode cX6_ones 12 = .ok (.iload_n 2, 1) := by decide +kernel
theorem dX6_ones_13 : decode cX6_ones 13 = .ok (.iconst 1, 1) := by decide +kernel
theorem dX6_ones_14 : decode cX6_ones 14 = .ok (.isub, 1) := by decide +kernel
theorem dX6_ones_15 : decode cX6_ones 15 = .ok (.iand, 1) := by decide +kernel
theorem dX6_ones_16 : decode cX6_ones 16 = .ok (.istore_n 2, 1) := by decide +kernel
theorem dX6_ones_17 : decode cX6_ones 17 = .ok (.goto (-13), 3) := by decide +kernel
theorem dX6_ones_20 : decode cX6_ones 20 = .ok (.iload_n 1, 1) := by decide +kernel
theorem dX6_ones_21 : decode cX6_ones 21 = .ok (.ireturn, 1) := by decide +kernel
theorem dX6_pair_0 : decode cX6_pair 0 = .ok (.aload_n 0, 1) := by decide +kernel
theorem dX6_pair_1 : decode cX6_pair 1 = .ok (.iload_n 1, 1) := by decide +kernel
theorem dX6_pair_2 : decode cX6_pair 2 = .ok (.iload_n 2, 1) := by decide +kernel
theorem dX6_pair_3 : decode cX6_pair 3 = .ok (.invokevirtual 115, 3) := by decide +kernel
theorem dX6_pair_6 : decode cX6_pair 6 = .ok (.ifCond .ne 10, 3) := by decide +kernel
theorem dX6_pair_9 : decode cX6_pair 9 = .ok (.aload_n 0, 1) := by decide +kernel
theorem dX6_pair_10 : decode cX6_pair 10 = .ok (.ldc 49, 2) := by decide +kernel
theorem dX6_pair_12 : decode cX6_pair 12 = .ok (.invokevirtual 73, 3) := by decide +kernel
theorem dX6_pair_15 : decode cX6_pair 15 = .ok (.ireturn, 1) := by decide +kernel
theorem dX6_pair_16 : decode cX6_pair 16 = .ok (.aload_n 0, 1) := by decide +kernel
theorem dX6_pair_17 : decode cX6_pair 17 = .ok (.getfield 7, 3) := by decide +kernel
theorem dX6_pair_20 : decode cX6_pair 20 = .ok (.iconst 5, 1) := by decide +kernel
theorem dX6_pair_21 : decode cX6_pair 21 = .ok (.iload_n 1, 1) := by decide +kernel
theorem dX6_pair_22 : decode cX6_pair 22 = .ok (.iastore, 1) := by decide +kernel
theorem dX6_pair_23 : decode cX6_pair 23 = .ok (.aload_n 0, 1) := by decide +kernel
theorem dX6_pair_24 : decode cX6_pair 24 = .ok (.getfield 7, 3) := by decide +kernel
theorem dX6_pair_27 : decode cX6_pair 27 = .ok (.bipush 6, 2) := by decide +kernel
theorem dX6_pair_29 : decode cX6_pair 29 = .ok (.iload_n 2, 1) := by decide +kernel
theorem dX6_pair_30 : decode cX6_pair 30 = .ok (.iastore, 1) := by decide +kernel
theorem dX6_pair_31 : decode cX6_pair 31 = .ok (.aload_n 0, 1) := by decide +kernel
theorem dX6_pair_32 : decode cX6_pair 32 = .ok (.invokevirtual 119, 3) := by decide +kernel
theorem dX6_pair_35 : decode cX6_pair 35 = .ok (.invokestatic 123, 3) := by decide +kernel
theorem dX6_pair_38 : decode cX6_pair 38 = .ok (.ireturn, 1) := by decide +kernel
theorem dX6_rest_0 : decode cX6_rest 0 = .ok (.aload_n 0, 1) := by decide +kernel
theorem dX6_rest_1 : decode cX6_rest 1 = .ok (.invokevirtual 111, 3) := by decide +kernel
theorem dX6_rest_4 : decode cX6_rest 4 = .ok (.ifCond .eq 7, 3) := by decide +kernel
theorem dX6_rest_7 : decode cX6_rest 7 = .ok (.iconst 1, 1) := by decide +kernel
theorem dX6_rest_8 : decode cX6_rest 8 = .ok (.goto 4, 3) := by decide +kernel
theorem dX6_rest_11 : decode cX6_rest 11 = .ok (.iconst 0, 1) := by decide +kernel
theorem dX6_rest_12 : decode cX6_rest 12 = .ok (.istore_n 1, 1) := by decide +kernel
theorem dX6_rest_13 : decode cX6_rest 13 = .ok (.aload_n 0, 1) := by decide +kernel
theorem dX6_rest_14 : decode cX6_rest 14 = .ok (.getfield 7, 3) := by decide +kernel
theorem dX6_rest_17 : decode cX6_rest 17 = .ok (.iconst 5, 1) := by decide +kernel
theorem dX6_rest_18 : decode cX6_rest 18 = .ok (.iconst (-1), 1) := by decide +kernel
theorem dX6_rest_19 : decode cX6_rest 19 = .ok (.iastore, 1) := by decide +kernel
theorem dX6_rest_20 : decode cX6_rest 20 = .ok (.aload_n 0, 1) := by decide +kernel
theorem dX6_rest_21 : decode cX6_rest 21 = .ok (.getfield 7, 3) := by decide +kernel
theorem dX6_rest_24 : decode cX6_rest 24 = .ok (.bipush 6, 2) := by decide +kernel
theorem dX6_rest_26 : decode cX6_rest 26 = .ok (.iconst (-1), 1) := by decide +kernel
theorem dX6_rest_27 : decode cX6_rest 27 = .ok (.iastore, 1) := by decide +kernel
theorem dX6_rest_28 : decode cX6_rest 28 = .ok (.iload_n 1, 1) := by decide +kernel
theorem dX6_rest_29 : decode cX6_rest 29 = .ok (.ireturn, 1) := by decide +kernel
theorem dX6_subject_0 : decode cX6_subject 0 = .ok (.iload_n 1, 1) := by decide +kernel
theorem dX6_subject_1 : decode cX6_subject 1 = .ok (.invokestatic 104, 3) := by decide +kernel
theorem dX6_subject_4 : decode cX6_subject 4 = .ok (.ifCond .eq 12, 3) := by decide +kernel
theorem dX6_subject_7 : decode cX6_subject 7 = .ok (.aload_n 0, 1) := by decide +kernel
theorem dX6_subject_8 : decode cX6_subject 8 = .ok (.iconst 3, 1) := by decide +kernel
theorem dX6_subject_9 : decode cX6_subject 9 = .ok (.iload_n 1, 1) := by decide +kernel
theorem dX6_subject_10 : decode cX6_subject 10 = .ok (.invokevirtual 93, 3) := by decide +kernel
theorem dX6_subject_13 : decode cX6_subject 13 = .ok (.goto 9, 3) := by decide +kernel
theorem dX6_subject_16 : decode cX6_subject 16 = .ok (.aload_n 0, 1) := by decide +kernel
theorem dX6_subject_17 : decode cX6_subject 17 = .ok (.ldc 49, 2) := by decide +kernel
theorem dX6_subject_19 : decode cX6_subject 19 = .ok (.invokevirtual 73, 3) := by decide +kernel
theorem dX6_subject_22 : decode cX6_subject 22 = .ok (.ireturn, 1) := by decide +kernel
theorem dX6_heldView_0 : decode cX6_heldView 0 = .ok (.iload_n 0, 1) := by decide +kernel
theorem dX6_heldView_1 : decode cX6_heldView 1 = .ok (.bipush (-9), 2) := by decide +kernel
theorem dX6_heldView_3 : decode cX6_heldView 3 = .ok (.if_icmp .ge 8, 3) := by decide +kernel
theorem dX6_heldView_6 : decode cX6_heldView 6 = .ok (.bipush (-9), 2) := by decide +kernel
theorem dX6_heldView_8 : decode cX6_heldView 8 = .ok (.goto 15, 3) := by decide +kernel
theorem dX6_heldView_11 : decode cX6_heldView 11 = .ok (.iload_n 0, 1) := by decide +kernel
theorem dX6_heldView_12 : decode cX6_heldView 12 = .ok (.bipush 9, 2) := by decide +kernel
theorem dX6_heldView_14 : decode cX6_heldView 14 = .ok (.if_icmp .le 8, 3) := by decide +kernel
theorem dX6_heldView_17 : decode cX6_heldView 17 = .ok (.bipush 9, 2) := by decide +kernel
theorem dX6_heldView_19 : decode cX6_heldView 19 = .ok (.goto 4, 3) := by decide +kernel
theorem dX6_heldView_22 : decode cX6_heldView 22 = .ok (.iload_n 0, 1) := by decide +kernel
theorem dX6_heldView_23 : decode cX6_heldView 23 = .ok (.ireturn, 1) := by decide +kernel
theorem dX6_replies_0 : decode cX6_replies 0 = .ok (.aload_n 0, 1) := by decide +kernel
theorem dX6_replies_1 : decode cX6_replies 1 = .ok (.getfield 7, 3) := by decide +kernel
theorem dX6_replies_4 : decode cX6_replies 4 = .ok (.iconst 5, 1) := by decide +kernel
theorem dX6_replies_5 : decode cX6_replies 5 = .ok (.iaload, 1) := by decide +kernel
theorem dX6_replies_6 : decode cX6_replies 6 = .ok (.iconst 2, 1) := by decide +kernel
theorem dX6_replies_7 : decode cX6_replies 7 = .ok (.aload_n 0, 1) := by decide +kernel
theorem dX6_replies_8 : decode cX6_replies 8 = .ok (.getfield 7, 3) := by decide +kernel
theorem dX6_replies_11 : decode cX6_replies 11 = .ok (.iconst 3, 1) := by decide +kernel
theorem dX6_replies_12 : decode cX6_replies 12 = .ok (.iaload, 1) := by decide +kernel
theorem dX6_replies_13 : decode cX6_replies 13 = .ok (.iadd, 1) := by decide +kernel
theorem dX6_replies_14 : decode cX6_replies 14 = .ok (.invokestatic 66, 3) := by decide +kernel
theorem dX6_replies_17 : decode cX6_replies 17 = .ok (.istore_n 2, 1) := by decide +kernel
theorem dX6_replies_18 : decode cX6_replies 18 = .ok (.aload_n 0, 1) := by decide +kernel
theorem dX6_replies_19 : decode cX6_replies 19 = .ok (.getfield 7, 3) := by decide +kernel
theorem dX6_replies_22 : decode cX6_replies 22 = .ok (.bipush 6, 2) := by decide +kernel
theorem dX6_replies_24 : decode cX6_replies 24 = .ok (.iaload, 1) := by decide +kernel
theorem dX6_replies_25 : decode cX6_replies 25 = .ok (.iconst 2, 1) := by decide +kernel
theorem dX6_replies_26 : decode cX6_replies 26 = .ok (.aload_n 0, 1) := by decide +kernel
theorem dX6_replies_27 : decode cX6_replies 27 = .ok (.getfield 7, 3) := by decide +kernel
theorem dX6_replies_30 : decode cX6_replies 30 = .ok (.iconst 3, 1) := by decide +kernel
theorem dX6_replies_31 : decode cX6_replies 31 = .ok (.iaload, 1) := by decide +kernel
theorem dX6_replies_32 : decode cX6_replies 32 = .ok (.iadd, 1) := by decide +kernel
theorem dX6_replies_33 : decode cX6_replies 33 = .ok (.invokestatic 66, 3) := by decide +kernel
theorem dX6_replies_36 : decode cX6_replies 36 = .ok (.istore_n 3, 1) := by decide +kernel
theorem dX6_replies_37 : decode cX6_replies 37 = .ok (.aload_n 0, 1) := by decide +kernel
theorem dX6_replies_38 : decode cX6_replies 38 = .ok (.getfield 7, 3) := by decide +kernel
theorem dX6_replies_41 : decode cX6_replies 41 = .ok (.iload_n 2, 1) := by decide +kernel
theorem dX6_replies_42 : decode cX6_replies 42 = .ok (.iaload, 1) := by decide +kernel
theorem dX6_replies_43 : decode cX6_replies 43 = .ok (.aload_n 0, 1) := by decide +kernel
theorem dX6_replies_44 : decode cX6_replies 44 = .ok (.getfield 7, 3) := by decide +kernel
theorem dX6_replies_47 : decode cX6_replies 47 = .ok (.iload_n 3, 1) := by decide +kernel
theorem dX6_replies_48 : decode cX6_replies 48 = .ok (.iaload, 1) := by decide +kernel
theorem dX6_replies_49 : decode cX6_replies 49 = .ok (.if_icmp .ge 7, 3) := by decide +kernel
theorem dX6_replies_52 : decode cX6_replies 52 = .ok (.iconst 1, 1) := by decide +kernel
theorem dX6_replies_53 : decode cX6_replies 53 = .ok (.goto 4, 3) := by decide +kernel
theorem dX6_replies_56 : decode cX6_replies 56 = .ok (.iconst (-1), 1) := by decide +kernel
theorem dX6_replies_57 : decode cX6_replies 57 = .ok (.istore 4, 2) := by decide +kernel
theorem dX6_replies_59 : decode cX6_replies 59 = .ok (.aload_n 0, 1) := by decide +kernel
theorem dX6_replies_60 : decode cX6_replies 60 = .ok (.aload_n 0, 1) := by decide +kernel
theorem dX6_replies_61 : decode cX6_replies 61 = .ok (.getfield 7, 3) := by decide +kernel
theorem dX6_replies_64 : decode cX6_replies 64 = .ok (.iconst 5, 1) := by decide +kernel
theorem dX6_replies_65 : decode cX6_replies 65 = .ok (.iaload, 1) := by decide +kernel
theorem dX6_replies_66 : decode cX6_replies 66 = .ok (.iload_n 1, 1) := by decide +kernel
theorem dX6_replies_67 : decode cX6_replies 67 = .ok (.invokevirtual 101, 3) := by decide +kernel
theorem dX6_replies_70 : decode cX6_replies 70 = .ok (.aload_n 0, 1) := by decide +kernel
theorem dX6_replies_71 : decode cX6_replies 71 = .ok (.aload_n 0, 1) := by decide +kernel
theorem dX6_replies_72 : decode cX6_replies 72 = .ok (.getfield 7, 3) := by decide +kernel
theorem dX6_replies_75 : decode cX6_replies 75 = .ok (.bipush 6, 2) := by decide +kernel
theorem dX6_replies_77 : decode cX6_replies 77 = .ok (.iaload, 1) := by decide +kernel
theorem dX6_replies_78 : decode cX6_replies 78 = .ok (.iload_n 1, 1) := by decide +kernel
theorem dX6_replies_79 : decode cX6_replies 79 = .ok (.invokevirtual 101, 3) := by decide +kernel
theorem dX6_replies_82 : decode cX6_replies 82 = .ok (.iadd, 1) := by decide +kernel
theorem dX6_replies_83 : decode cX6_replies 83 = .ok (.istore 5, 2) := by decide +kernel
theorem dX6_replies_85 : decode cX6_replies 85 = .ok (.aload_n 0, 1) := by decide +kernel
theorem dX6_replies_86 : decode cX6_replies 86 = .ok (.getfield 7, 3) := by decide +kernel
theorem dX6_replies_89 : decode cX6_replies 89 = .ok (.iconst 2, 1) := by decide +kernel
theorem dX6_replies_90 : decode cX6_replies 90 = .ok (.iaload, 1) := by decide +kernel
theorem dX6_replies_91 : decode cX6_replies 91 = .ok (.iload 5, 2) := by decide +kernel
theorem dX6_replies_93 : decode cX6_replies 93 = .ok (.iadd, 1) := by decide +kernel
theorem dX6_replies_94 : decode cX6_replies 94 = .ok (.istore 6, 2) := by decide +kernel
theorem dX6_replies_96 : decode cX6_replies 96 = .ok (.aload_n 0, 1) := by decide +kernel
theorem dX6_replies_97 : decode cX6_replies 97 = .ok (.dup, 1) := by decide +kernel
theorem dX6_replies_98 : decode cX6_replies 98 = .ok (.getfield 126, 3) := by decide +kernel
theorem dX6_replies_101 : decode cX6_replies 101 = .ok (.iload 5, 2) := by decide +kernel
theorem dX6_replies_103 : decode cX6_replies 103 = .ok (.iadd, 1) := by decide +kernel
theorem dX6_replies_104 : decode cX6_replies 104 = .ok (.putfield 126, 3) := by decide +kernel
theorem dX6_replies_107 : decode cX6_replies 107 = .ok (.aload_n 0, 1) := by decide +kernel
theorem dX6_replies_108 : decode cX6_replies 108 = .ok (.getfield 7, 3) := by decide +kernel
theorem dX6_replies_111 : decode cX6_replies 111 = .ok (.iconst 2, 1) := by decide +kernel
theorem dX6_replies_112 : decode cX6_replies 112 = .ok (.iload 6, 2) := by decide +kernel
theorem dX6_replies_114 : decode cX6_replies 114 = .ok (.ldc 130, 2) := by decide +kernel
theorem dX6_replies_116 : decode cX6_replies 116 = .ok (.if_icmp .le 8, 3) := by decide +kernel
theorem dX6_replies_119 : decode cX6_replies 119 = .ok (.ldc 130, 2) := by decide +kernel
theorem dX6_replies_121 : decode cX6_replies 121 = .ok (.goto 5, 3) := by decide +kernel
theorem dX6_replies_124 : decode cX6_replies 124 = .ok (.iload 6, 2) := by decide +kernel
theorem dX6_replies_126 : decode cX6_replies 126 = .ok (.iastore, 1) := by decide +kernel
theorem dX6_replies_127 : decode cX6_replies 127 = .ok (.aload_n 0, 1) := by decide +kernel
theorem dX6_replies_128 : decode cX6_replies 128 = .ok (.getfield 7, 3) := by decide +kernel
theorem dX6_replies_131 : decode cX6_replies 131 = .ok (.iload_n 2, 1) := by decide +kernel
theorem dX6_replies_132 : decode cX6_replies 132 = .ok (.aload_n 0, 1) := by decide +kernel
theorem dX6_replies_133 : decode cX6_replies 133 = .ok (.getfield 7, 3) := by decide +kernel
theorem dX6_replies_136 : decode cX6_replies 136 = .ok (.iload_n 2, 1) := by decide +kernel
theorem dX6_replies_137 : decode cX6_replies 137 = .ok (.iaload, 1) := by decide +kernel
theorem dX6_replies_138 : decode cX6_replies 138 = .ok (.iload 4, 2) := by decide +kernel
theorem dX6_replies_140 : decode cX6_replies 140 = .ok (.aload_n 0, 1) := by decide +kernel
theorem dX6_replies_141 : decode cX6_replies 141 = .ok (.aload_n 0, 1) := by decide +kernel
theorem dX6_replies_142 : decode cX6_replies 142 = .ok (.getfield 7, 3) := by decide +kernel
theorem dX6_replies_145 : decode cX6_replies 145 = .ok (.iconst 5, 1) := by decide +kernel
theorem dX6_replies_146 : decode cX6_replies 146 = .ok (.iaload, 1) := by decide +kernel
theorem dX6_replies_147 : decode cX6_replies 147 = .ok (.iload_n 1, 1) := by decide +kernel
theorem dX6_replies_148 : decode cX6_replies 148 = .ok (.invokevirtual 98, 3) := by decide +kernel
theorem dX6_replies_151 : decode cX6_replies 151 = .ok (.imul, 1) := by decide +kernel
theorem dX6_replies_152 : decode cX6_replies 152 = .ok (.iadd, 1) := by decide +kernel
theorem dX6_replies_153 : decode cX6_replies 153 = .ok (.invokestatic 131, 3) := by decide +kernel
theorem dX6_replies_156 : decode cX6_replies 156 = .ok (.iastore, 1) := by decide +kernel
theorem dX6_replies_157 : decode cX6_replies 157 = .ok (.aload_n 0, 1) := by decide +kernel
theorem dX6_replies_158 : decode cX6_replies 158 = .ok (.getfield 7, 3) := by decide +kernel
theorem dX6_replies_161 : decode cX6_replies 161 = .ok (.iload_n 3, 1) := by decide +kernel
theorem dX6_replies_162 : decode cX6_replies 162 = .ok (.aload_n 0, 1) := by decide +kernel
theorem dX6_replies_163 : decode cX6_replies 163 = .ok (.getfield 7, 3) := by decide +kernel
theorem dX6_replies_166 : decode cX6_replies 166 = .ok (.iload_n 3, 1) := by decide +kernel
theorem dX6_replies_167 : decode cX6_replies 167 = .ok (.iaload, 1) := by decide +kernel
theorem dX6_replies_168 : decode cX6_replies 168 = .ok (.iload 4, 2) := by decide +kernel
theorem dX6_replies_170 : decode cX6_replies 170 = .ok (.aload_n 0, 1) := by decide +kernel
theorem dX6_replies_171 : decode cX6_replies 171 = .ok (.aload_n 0, 1) := by decide +kernel
theorem dX6_replies_172 : decode cX6_replies 172 = .ok (.getfield 7, 3) := by decide +kernel
theorem dX6_replies_175 : decode cX6_replies 175 = .ok (.bipush 6, 2) := by decide +kernel
theorem dX6_replies_177 : decode cX6_replies 177 = .ok (.iaload, 1) := by decide +kernel
theorem dX6_replies_178 : decode cX6_replies 178 = .ok (.iload_n 1, 1) := by decide +kernel
theorem dX6_replies_179 : decode cX6_replies 179 = .ok (.invokevirtual 98, 3) := by decide +kernel
theorem dX6_replies_182 : decode cX6_replies 182 = .ok (.imul, 1) := by decide +kernel
theorem dX6_replies_183 : decode cX6_replies 183 = .ok (.isub, 1) := by decide +kernel
theorem dX6_replies_184 : decode cX6_replies 184 = .ok (.invokestatic 131, 3) := by decide +kernel
theorem dX6_replies_187 : decode cX6_replies 187 = .ok (.iastore, 1) := by decide +kernel
theorem dX6_replies_188 : decode cX6_replies 188 = .ok (.return_, 1) := by decide +kernel
theorem dX6_minute_0 : decode cX6_minute 0 = .ok (.aload_n 0, 1) := by decide +kernel
theorem dX6_minute_1 : decode cX6_minute 1 = .ok (.invokevirtual 111, 3) := by decide +kernel
theorem dX6_minute_4 : decode cX6_minute 4 = .ok (.ifCond .eq 56, 3) := by decide +kernel
theorem dX6_minute_7 : decode cX6_minute 7 = .ok (.aload_n 0, 1) := by decide +kernel
theorem dX6_minute_8 : decode cX6_minute 8 = .ok (.aload_n 0, 1) := by decide +kernel
theorem dX6_minute_9 : decode cX6_minute 9 = .ok (.getfield 7, 3) := by decide +kernel
theorem dX6_minute_12 : decode cX6_minute 12 = .ok (.iconst 5, 1) := by decide +kernel
theorem dX6_minute_13 : decode cX6_minute 13 = .ok (.iaload, 1) := by decide +kernel
theorem dX6_minute_14 : decode cX6_minute 14 = .ok (.aload_n 0, 1) := by decide +kernel
theorem dX6_minute_15 : decode cX6_minute 15 = .ok (.getfield 7, 3) := by decide +kernel
theorem dX6_minute_18 : decode cX6_minute 18 = .ok (.bipush 6, 2) := by decide +kernel
theorem dX6_minute_20 : decode cX6_minute 20 = .ok (.iaload, 1) := by decide +kernel
theorem dX6_minute_21 : decode cX6_minute 21 = .ok (.aload_n 0, 1) := by decide +kernel
theorem dX6_minute_22 : decode cX6_minute 22 = .ok (.getfield 7, 3) := by decide +kernel
theorem dX6_minute_25 : decode cX6_minute 25 = .ok (.iconst 3, 1) := by decide +kernel
theorem dX6_minute_26 : decode cX6_minute 26 = .ok (.iaload, 1) := by decide +kernel
theorem dX6_minute_27 : decode cX6_minute 27 = .ok (.invokevirtual 107, 3) := by decide +kernel
theorem dX6_minute_30 : decode cX6_minute 30 = .ok (.istore_n 1, 1) := by decide +kernel
theorem dX6_minute_31 : decode cX6_minute 31 = .ok (.iload_n 1, 1) := by decide +kernel
theorem dX6_minute_32 : decode cX6_minute 32 = .ok (.ifCond .ne 23, 3) := by decide +kernel
theorem dX6_minute_35 : decode cX6_minute 35 = .ok (.aload_n 0, 1) := by decide +kernel
theorem dX6_minute_36 : decode cX6_minute 36 = .ok (.getfield 7, 3) := by decide +kernel
theorem dX6_minute_39 : decode cX6_minute 39 = .ok (.iconst 3, 1) := by decide +kernel
theorem dX6_minute_40 : decode cX6_minute 40 = .ok (.aload_n 0, 1) := by decide +kernel
theorem dX6_minute_41 : decode cX6_minute 41 = .ok (.getfield 7, 3) := by decide +kernel
theorem dX6_minute_44 : decode cX6_minute 44 = .ok (.iconst 3, 1) := by decide +kernel
theorem dX6_minute_45 : decode cX6_minute 45 = .ok (.iaload, 1) := by decide +kernel
theorem dX6_minute_46 : decode cX6_minute 46 = .ok (.iconst 1, 1) := by decide +kernel
theorem dX6_minute_47 : decode cX6_minute 47 = .ok (.iadd, 1) := by decide +kernel
theorem dX6_minute_48 : decode cX6_minute 48 = .ok (.bipush 6, 2) := by decide +kernel
theorem dX6_minute_50 : decode cX6_minute 50 = .ok (.irem, 1) := by decide +kernel
theorem dX6_minute_51 : decode cX6_minute 51 = .ok (.iastore, 1) := by decide +kernel
theorem dX6_minute_52 : decode cX6_minute 52 = .ok (.goto 8, 3) := by decide +kernel
theorem dX6_minute_55 : decode cX6_minute 55 = .ok (.aload_n 0, 1) := by decide +kernel
theorem dX6_minute_56 : decode cX6_minute 56 = .ok (.iload_n 1, 1) := by decide +kernel
theorem dX6_minute_57 : decode cX6_minute 57 = .ok (.invokevirtual 134, 3) := by decide +kernel
theorem dX6_minute_60 : decode cX6_minute 60 = .ok (.aload_n 0, 1) := by decide +kernel
theorem dX6_minute_61 : decode cX6_minute 61 = .ok (.getfield 7, 3) := by decide +kernel
theorem dX6_minute_64 : decode cX6_minute 64 = .ok (.iconst 0, 1) := by decide +kernel
theorem dX6_minute_65 : decode cX6_minute 65 = .ok (.dup2, 1) := by decide +kernel
theorem dX6_minute_66 : decode cX6_minute 66 = .ok (.iaload, 1) := by decide +kernel
theorem dX6_minute_67 : decode cX6_minute 67 = .ok (.iconst 1, 1) := by decide +kernel
theorem dX6_minute_68 : decode cX6_minute 68 = .ok (.iadd, 1) := by decide +kernel
theorem dX6_minute_69 : decode cX6_minute 69 = .ok (.iastore, 1) := by decide +kernel
theorem dX6_minute_70 : decode cX6_minute 70 = .ok (.return_, 1) := by decide +kernel
theorem dX6_goesOn_0 : decode cX6_goesOn 0 = .ok (.iconst 0, 1) := by decide +kernel
theorem dX6_goesOn_1 : decode cX6_goesOn 1 = .ok (.istore_n 2, 1) := by decide +kernel
theorem dX6_goesOn_2 : decode cX6_goesOn 2 = .ok (.iload_n 2, 1) := by decide +kernel
theorem dX6_goesOn_3 : decode cX6_goesOn 3 = .ok (.iload_n 1, 1) := by decide +kernel
theorem dX6_goesOn_4 : decode cX6_goesOn 4 = .ok (.if_icmp .ge 13, 3) := by decide +kernel
theorem dX6_goesOn_7 : decode cX6_goesOn 7 = .ok (.aload_n 0, 1) := by decide +kernel
theorem dX6_goesOn_8 : decode cX6_goesOn 8 = .ok (.invokevirtual 138, 3) := by decide +kernel
theorem dX6_goesOn_11 : decode cX6_goesOn 11 = .ok (.iinc 2 1, 3) := by decide +kernel
theorem dX6_goesOn_14 : decode cX6_goesOn 14 = .ok (.goto (-12), 3) := by decide +kernel
theorem dX6_goesOn_17 : decode cX6_goesOn 17 = .ok (.return_, 1) := by decide +kernel
theorem dX6_go_0 : decode cX6_go 0 = .ok (.iload_n 1, 1) := by decide +kernel
theorem dX6_go_1 : decode cX6_go 1 = .ok (.i2l, 1) := by decide +kernel
theorem dX6_go_2 : decode cX6_go 2 = .ok (.lconst 1, 1) := by decide +kernel
theorem dX6_go_3 : decode cX6_go 3 = .ok (.ldc2_w 141, 3) := by decide +kernel
theorem dX6_go_6 : decode cX6_go 6 = .ok (.invokestatic 52, 3) := by decide +kernel
theorem dX6_go_9 : decode cX6_go 9 = .ok (.ifCond .ne 10, 3) := by decide +kernel
theorem dX6_go_12 : decode cX6_go 12 = .ok (.aload_n 0, 1) := by decide +kernel
theorem dX6_go_13 : decode cX6_go 13 = .ok (.ldc 49, 2) := by decide +kernel
theorem dX6_go_15 : decode cX6_go 15 = .ok (.invokevirtual 73, 3) := by decide +kernel
theorem dX6_go_18 : decode cX6_go 18 = .ok (.ireturn, 1) := by decide +kernel
theorem dX6_go_19 : decode cX6_go 19 = .ok (.aload_n 0, 1) := by decide +kernel
theorem dX6_go_20 : decode cX6_go 20 = .ok (.getfield 7, 3) := by decide +kernel
theorem dX6_go_23 : decode cX6_go 23 = .ok (.iconst 0, 1) := by decide +kernel
theorem dX6_go_24 : decode cX6_go 24 = .ok (.iaload, 1) := by decide +kernel
theorem dX6_go_25 : decode cX6_go 25 = .ok (.iload_n 1, 1) := by decide +kernel
theorem dX6_go_26 : decode cX6_go 26 = .ok (.iadd, 1) := by decide +kernel
theorem dX6_go_27 : decode cX6_go 27 = .ok (.ldc 143, 2) := by decide +kernel
theorem dX6_go_29 : decode cX6_go 29 = .ok (.if_icmp .le 10, 3) := by decide +kernel
theorem dX6_go_32 : decode cX6_go 32 = .ok (.aload_n 0, 1) := by decide +kernel
theorem dX6_go_33 : decode cX6_go 33 = .ok (.ldc 144, 2) := by decide +kernel
theorem dX6_go_35 : decode cX6_go 35 = .ok (.invokevirtual 73, 3) := by decide +kernel
theorem dX6_go_38 : decode cX6_go 38 = .ok (.ireturn, 1) := by decide +kernel
theorem dX6_go_39 : decode cX6_go 39 = .ok (.aload_n 0, 1) := by decide +kernel
theorem dX6_go_40 : decode cX6_go 40 = .ok (.iload_n 1, 1) := by decide +kernel
theorem dX6_go_41 : decode cX6_go 41 = .ok (.invokevirtual 145, 3) := by decide +kernel
theorem dX6_go_44 : decode cX6_go 44 = .ok (.aload_n 0, 1) := by decide +kernel
theorem dX6_go_45 : decode cX6_go 45 = .ok (.getfield 7, 3) := by decide +kernel
theorem dX6_go_48 : decode cX6_go 48 = .ok (.iconst 2, 1) := by decide +kernel
theorem dX6_go_49 : decode cX6_go 49 = .ok (.iaload, 1) := by decide +kernel
theorem dX6_go_50 : decode cX6_go 50 = .ok (.ireturn, 1) := by decide +kernel
theorem dX6_voices_0 : decode cX6_voices 0 = .ok (.iconst 0, 1) := by decide +kernel
theorem dX6_voices_1 : decode cX6_voices 1 = .ok (.istore_n 1, 1) := by decide +kernel
theorem dX6_voices_2 : decode cX6_voices 2 = .ok (.iconst 0, 1) := by decide +kernel
theorem dX6_voices_3 : decode cX6_voices 3 = .ok (.istore_n 2, 1) := by decide +kernel
theorem dX6_voices_4 : decode cX6_voices 4 = .ok (.iload_n 2, 1) := by decide +kernel
theorem dX6_voices_5 : decode cX6_voices 5 = .ok (.aload_n 0, 1) := by decide +kernel
theorem dX6_voices_6 : decode cX6_voices 6 = .ok (.getfield 7, 3) := by decide +kernel
theorem dX6_voices_9 : decode cX6_voices 9 = .ok (.iconst 1, 1) := by decide +kernel
theorem dX6_voices_10 : decode cX6_voices 10 = .ok (.iaload, 1) := by decide +kernel
theorem dX6_voices_11 : decode cX6_voices 11 = .ok (.if_icmp .ge 18, 3) := by decide +kernel
theorem dX6_voices_14 : decode cX6_voices 14 = .ok (.iload_n 1, 1) := by decide +kernel
theorem dX6_voices_15 : decode cX6_voices 15 = .ok (.aload_n 0, 1) := by decide +kernel
theorem dX6_voices_16 : decode cX6_voices 16 = .ok (.iload_n 2, 1) := by decide +kernel
theorem dX6_voices_17 : decode cX6_voices 17 = .ok (.iconst 1, 1) := by decide +kernel
theorem dX6_voices_18 : decode cX6_voices 18 = .ok (.invokevirtual 83, 3) := by decide +kernel
theorem dX6_voices_21 : decode cX6_voices 21 = .ok (.iadd, 1) := by decide +kernel
theorem dX6_voices_22 : decode cX6_voices 22 = .ok (.istore_n 1, 1) := by decide +kernel
theorem dX6_voices_23 : decode cX6_voices 23 = .ok (.iinc 2 1, 3) := by decide +kernel
theorem dX6_voices_26 : decode cX6_voices 26 = .ok (.goto (-22), 3) := by decide +kernel
theorem dX6_voices_29 : decode cX6_voices 29 = .ok (.iload_n 1, 1) := by decide +kernel
theorem dX6_voices_30 : decode cX6_voices 30 = .ok (.ireturn, 1) := by decide +kernel
theorem dX6_now_0 : decode cX6_now 0 = .ok (.iload_n 1, 1) := by decide +kernel
theorem dX6_now_1 : decode cX6_now 1 = .ok (.tableswitch 99 0 5 #[39, 46, 53, 60, 89, 94], 39) := by decide +kernel
theorem dX6_now_40 : decode cX6_now 40 = .ok (.aload_n 0, 1) := by decide +kernel
theorem dX6_now_41 : decode cX6_now 41 = .ok (.getfield 7, 3) := by decide +kernel
theorem dX6_now_44 : decode cX6_now 44 = .ok (.iconst 0, 1) := by decide +kernel
theorem dX6_now_45 : decode cX6_now 45 = .ok (.iaload, 1) := by decide +kernel
theorem dX6_now_46 : decode cX6_now 46 = .ok (.ireturn, 1) := by decide +kernel
theorem dX6_now_47 : decode cX6_now 47 = .ok (.aload_n 0, 1) := by decide +kernel
theorem dX6_now_48 : decode cX6_now 48 = .ok (.getfield 7, 3) := by decide +kernel
theorem dX6_now_51 : decode cX6_now 51 = .ok (.iconst 2, 1) := by decide +kernel
theorem dX6_now_52 : decode cX6_now 52 = .ok (.iaload, 1) := by decide +kernel
theorem dX6_now_53 : decode cX6_now 53 = .ok (.ireturn, 1) := by decide +kernel
theorem dX6_now_54 : decode cX6_now 54 = .ok (.aload_n 0, 1) := by decide +kernel
theorem dX6_now_55 : decode cX6_now 55 = .ok (.getfield 7, 3) := by decide +kernel
theorem dX6_now_58 : decode cX6_now 58 = .ok (.iconst 3, 1) := by decide +kernel
theorem dX6_now_59 : decode cX6_now 59 = .ok (.iaload, 1) := by decide +kernel
theorem dX6_now_60 : decode cX6_now 60 = .ok (.ireturn, 1) := by decide +kernel
theorem dX6_now_61 : decode cX6_now 61 = .ok (.aload_n 0, 1) := by decide +kernel
theorem dX6_now_62 : decode cX6_now 62 = .ok (.invokevirtual 111, 3) := by decide +kernel
theorem dX6_now_65 : decode cX6_now 65 = .ok (.ifCond .eq 23, 3) := by decide +kernel
theorem dX6_now_68 : decode cX6_now 68 = .ok (.bipush 8, 2) := by decide +kernel
theorem dX6_now_70 : decode cX6_now 70 = .ok (.aload_n 0, 1) := by decide +kernel
theorem dX6_now_71 : decode cX6_now 71 = .ok (.getfield 7, 3) := by decide +kernel
theorem dX6_now_74 : decode cX6_now 74 = .ok (.iconst 5, 1) := by decide +kernel
theorem dX6_now_75 : decode cX6_now 75 = .ok (.iaload, 1) := by decide +kernel
theorem dX6_now_76 : decode cX6_now 76 = .ok (.imul, 1) := by decide +kernel
theorem dX6_now_77 : decode cX6_now 77 = .ok (.aload_n 0, 1) := by decide +kernel
theorem dX6_now_78 : decode cX6_now 78 = .ok (.getfield 7, 3) := by decide +kernel
theorem dX6_now_81 : decode cX6_now 81 = .ok (.bipush 6, 2) := by decide +kernel
theorem dX6_now_83 : decode cX6_now 83 = .ok (.iaload, 1) := by decide +kernel
theorem dX6_now_84 : decode cX6_now 84 = .ok (.iadd, 1) := by decide +kernel
theorem dX6_now_85 : decode cX6_now 85 = .ok (.goto 4, 3) := by decide +kernel
theorem dX6_now_88 : decode cX6_now 88 = .ok (.iconst (-1), 1) := by decide +kernel
theorem dX6_now_89 : decode cX6_now 89 = .ok (.ireturn, 1) := by decide +kernel
theorem dX6_now_90 : decode cX6_now 90 = .ok (.aload_n 0, 1) := by decide +kernel
theorem dX6_now_91 : decode cX6_now 91 = .ok (.invokevirtual 119, 3) := by decide +kernel
theorem dX6_now_94 : decode cX6_now 94 = .ok (.ireturn, 1) := by decide +kernel
theorem dX6_now_95 : decode cX6_now 95 = .ok (.aload_n 0, 1) := by decide +kernel
theorem dX6_now_96 : decode cX6_now 96 = .ok (.invokevirtual 148, 3) := by decide +kernel
theorem dX6_now_99 : decode cX6_now 99 = .ok (.ireturn, 1) := by decide +kernel
theorem dX6_now_100 : decode cX6_now 100 = .ok (.aload_n 0, 1) := by decide +kernel
theorem dX6_now_101 : decode cX6_now 101 = .ok (.ldc 49, 2) := by decide +kernel
theorem dX6_now_103 : decode cX6_now 103 = .ok (.invokevirtual 73, 3) := by decide +kernel
theorem dX6_now_106 : decode cX6_now 106 = .ok (.ireturn, 1) := by decide +kernel
theorem dX6_behind_0 : decode cX6_behind 0 = .ok (.aload_n 0, 1) := by decide +kernel
theorem dX6_behind_1 : decode cX6_behind 1 = .ok (.invokevirtual 151, 3) := by decide +kernel
theorem dX6_behind_4 : decode cX6_behind 4 = .ok (.aload_n 0, 1) := by decide +kernel
theorem dX6_behind_5 : decode cX6_behind 5 = .ok (.iload_n 2, 1) := by decide +kernel
theorem dX6_behind_6 : decode cX6_behind 6 = .ok (.invokevirtual 145, 3) := by decide +kernel
theorem dX6_behind_9 : decode cX6_behind 9 = .ok (.aload_n 0, 1) := by decide +kernel
theorem dX6_behind_10 : decode cX6_behind 10 = .ok (.aload_n 0, 1) := by decide +kernel
theorem dX6_behind_11 : decode cX6_behind 11 = .ok (.getfield 7, 3) := by decide +kernel
theorem dX6_behind_14 : decode cX6_behind 14 = .ok (.iload_n 1, 1) := by decide +kernel
theorem dX6_behind_15 : decode cX6_behind 15 = .ok (.iaload, 1) := by decide +kernel
theorem dX6_behind_16 : decode cX6_behind 16 = .ok (.invokevirtual 154, 3) := by decide +kernel
theorem dX6_behind_19 : decode cX6_behind 19 = .ok (.ireturn, 1) := by decide +kernel
theorem dX6_ahead_0 : decode cX6_ahead 0 = .ok (.iload_n 1, 1) := by decide +kernel
theorem dX6_ahead_1 : decode cX6_ahead 1 = .ok (.i2l, 1) := by decide +kernel
theorem dX6_ahead_2 : decode cX6_ahead 2 = .ok (.lconst 0, 1) := by decide +kernel
theorem dX6_ahead_3 : decode cX6_ahead 3 = .ok (.ldc2_w 157, 3) := by decide +kernel
theorem dX6_ahead_6 : decode cX6_ahead 6 = .ok (.invokestatic 52, 3) := by decide +kernel
theorem dX6_ahead_9 : decode cX6_ahead 9 = .ok (.ifCond .eq 12, 3) := by decide +kernel
theorem dX6_ahead_12 : decode cX6_ahead 12 = .ok (.aload_n 0, 1) := by decide +kernel
theorem dX6_ahead_13 : decode cX6_ahead 13 = .ok (.iconst 2, 1) := by decide +kernel
theorem dX6_ahead_14 : decode cX6_ahead 14 = .ok (.iload_n 1, 1) := by decide +kernel
theorem dX6_ahead_15 : decode cX6_ahead 15 = .ok (.invokevirtual 159, 3) := by decide +kernel
theorem dX6_ahead_18 : decode cX6_ahead 18 = .ok (.goto 9, 3) := by decide +kernel
theorem dX6_ahead_21 : decode cX6_ahead 21 = .ok (.aload_n 0, 1) := by decide +kernel
theorem dX6_ahead_22 : decode cX6_ahead 22 = .ok (.ldc 49, 2) := by decide +kernel
theorem dX6_ahead_24 : decode cX6_ahead 24 = .ok (.invokevirtual 73, 3) := by decide +kernel
theorem dX6_ahead_27 : decode cX6_ahead 27 = .ok (.ireturn, 1) := by decide +kernel
theorem dX6_view_0 : decode cX6_view 0 = .ok (.aload_n 0, 1) := by decide +kernel
theorem dX6_view_1 : decode cX6_view 1 = .ok (.iload_n 1, 1) := by decide +kernel
theorem dX6_view_2 : decode cX6_view 2 = .ok (.invokevirtual 56, 3) := by decide +kernel
theorem dX6_view_5 : decode cX6_view 5 = .ok (.ifCond .eq 37, 3) := by decide +kernel
theorem dX6_view_8 : decode cX6_view 8 = .ok (.iload_n 2, 1) := by decide +kernel
theorem dX6_view_9 : decode cX6_view 9 = .ok (.invokestatic 104, 3) := by decide +kernel
theorem dX6_view_12 : decode cX6_view 12 = .ok (.ifCond .eq 30, 3) := by decide +kernel
theorem dX6_view_15 : decode cX6_view 15 = .ok (.iload_n 3, 1) := by decide +kernel
theorem dX6_view_16 : decode cX6_view 16 = .ok (.i2l, 1) := by decide +kernel
theorem dX6_view_17 : decode cX6_view 17 = .ok (.lconst 0, 1) := by decide +kernel
theorem dX6_view_18 : decode cX6_view 18 = .ok (.ldc2_w 157, 3) := by decide +kernel
theorem dX6_view_21 : decode cX6_view 21 = .ok (.invokestatic 52, 3) := by decide +kernel
theorem dX6_view_24 : decode cX6_view 24 = .ok (.ifCond .eq 18, 3) := by decide +kernel
theorem dX6_view_27 : decode cX6_view 27 = .ok (.aload_n 0, 1) := by decide +kernel
theorem dX6_view_28 : decode cX6_view 28 = .ok (.iload_n 1, 1) := by decide +kernel
theorem dX6_view_29 : decode cX6_view 29 = .ok (.iconst 2, 1) := by decide +kernel
theorem dX6_view_30 : decode cX6_view 30 = .ok (.iload_n 2, 1) := by decide +kernel
theorem dX6_view_31 : decode cX6_view 31 = .ok (.iadd, 1) := by decide +kernel
theorem dX6_view_32 : decode cX6_view 32 = .ok (.invokestatic 66, 3) := by decide +kernel
theorem dX6_view_35 : decode cX6_view 35 = .ok (.iload_n 3, 1) := by decide +kernel
theorem dX6_view_36 : decode cX6_view 36 = .ok (.invokevirtual 159, 3) := by decide +kernel
theorem dX6_view_39 : decode cX6_view 39 = .ok (.goto 9, 3) := by decide +kernel
theorem dX6_view_42 : decode cX6_view 42 = .ok (.aload_n 0, 1) := by decide +kernel
theorem dX6_view_43 : decode cX6_view 43 = .ok (.ldc 49, 2) := by decide +kernel
theorem dX6_view_45 : decode cX6_view 45 = .ok (.invokevirtual 73, 3) := by decide +kernel
theorem dX6_view_48 : decode cX6_view 48 = .ok (.ireturn, 1) := by decide +kernel
theorem dX6_orNone_0 : decode cX6_orNone 0 = .ok (.iload_n 1, 1) := by decide +kernel
theorem dX6_orNone_1 : decode cX6_orNone 1 = .ok (.sipush 300, 3) := by decide +kernel
theorem dX6_orNone_4 : decode cX6_orNone 4 = .ok (.if_icmp .le 12, 3) := by decide +kernel
theorem dX6_orNone_7 : decode cX6_orNone 7 = .ok (.aload_n 0, 1) := by decide +kernel
theorem dX6_orNone_8 : decode cX6_orNone 8 = .ok (.ldc 162, 2) := by decide +kernel
theorem dX6_orNone_10 : decode cX6_orNone 10 = .ok (.invokevirtual 73, 3) := by decide +kernel
theorem dX6_orNone_13 : decode cX6_orNone 13 = .ok (.goto 4, 3) := by decide +kernel
theorem dX6_orNone_16 : decode cX6_orNone 16 = .ok (.iload_n 1, 1) := by decide +kernel
theorem dX6_orNone_17 : decode cX6_orNone 17 = .ok (.ireturn, 1) := by decide +kernel
theorem dX6_dry_0 : decode cX6_dry 0 = .ok (.aload_n 0, 1) := by decide +kernel
theorem dX6_dry_1 : decode cX6_dry 1 = .ok (.invokevirtual 151, 3) := by decide +kernel
theorem dX6_dry_4 : decode cX6_dry 4 = .ok (.iconst 0, 1) := by decide +kernel
theorem dX6_dry_5 : decode cX6_dry 5 = .ok (.istore_n 1, 1) := by decide +kernel
theorem dX6_dry_6 : decode cX6_dry 6 = .ok (.iload_n 1, 1) := by decide +kernel
theorem dX6_dry_7 : decode cX6_dry 7 = .ok (.sipush 300, 3) := by decide +kernel
theorem dX6_dry_10 : decode cX6_dry 10 = .ok (.if_icmp .gt 20, 3) := by decide +kernel
theorem dX6_dry_13 : decode cX6_dry 13 = .ok (.aload_n 0, 1) := by decide +kernel
theorem dX6_dry_14 : decode cX6_dry 14 = .ok (.invokevirtual 119, 3) := by decide +kernel
theorem dX6_dry_17 : decode cX6_dry 17 = .ok (.ifCond .eq 13, 3) := by decide +kernel
theorem dX6_dry_20 : decode cX6_dry 20 = .ok (.aload_n 0, 1) := by decide +kernel
theorem dX6_dry_21 : decode cX6_dry 21 = .ok (.invokevirtual 138, 3) := by decide +kernel
theorem dX6_dry_24 : decode cX6_dry 24 = .ok (.iinc 1 1, 3) := by decide +kernel
theorem dX6_dry_27 : decode cX6_dry 27 = .ok (.goto (-21), 3) := by decide +kernel
theorem dX6_dry_30 : decode cX6_dry 30 = .ok (.aload_n 0, 1) := by decide +kernel
theorem dX6_dry_31 : decode cX6_dry 31 = .ok (.aload_n 0, 1) := by decide +kernel
theorem dX6_dry_32 : decode cX6_dry 32 = .ok (.iload_n 1, 1) := by decide +kernel
theorem dX6_dry_33 : decode cX6_dry 33 = .ok (.invokevirtual 154, 3) := by decide +kernel
theorem dX6_dry_36 : decode cX6_dry 36 = .ok (.invokevirtual 163, 3) := by decide +kernel
theorem dX6_dry_39 : decode cX6_dry 39 = .ok (.ireturn, 1) := by decide +kernel
theorem dX6_filled_0 : decode cX6_filled 0 = .ok (.iload_n 1, 1) := by decide +kernel
theorem dX6_filled_1 : decode cX6_filled 1 = .ok (.i2l, 1) := by decide +kernel
theorem dX6_filled_2 : decode cX6_filled 2 = .ok (.lconst 0, 1) := by decide +kernel
theorem dX6_filled_3 : decode cX6_filled 3 = .ok (.ldc2_w 166, 3) := by decide +kernel
theorem dX6_filled_6 : decode cX6_filled 6 = .ok (.invokestatic 52, 3) := by decide +kernel
theorem dX6_filled_9 : decode cX6_filled 9 = .ok (.ifCond .ne 10, 3) := by decide +kernel
theorem dX6_filled_12 : decode cX6_filled 12 = .ok (.aload_n 0, 1) := by decide +kernel
theorem dX6_filled_13 : decode cX6_filled 13 = .ok (.ldc 49, 2) := by decide +kernel
theorem dX6_filled_15 : decode cX6_filled 15 = .ok (.invokevirtual 73, 3) := by decide +kernel
theorem dX6_filled_18 : decode cX6_filled 18 = .ok (.ireturn, 1) := by decide +kernel
theorem dX6_filled_19 : decode cX6_filled 19 = .ok (.aload_n 0, 1) := by decide +kernel
theorem dX6_filled_20 : decode cX6_filled 20 = .ok (.invokevirtual 151, 3) := by decide +kernel
theorem dX6_filled_23 : decode cX6_filled 23 = .ok (.iconst 0, 1) := by decide +kernel
theorem dX6_filled_24 : decode cX6_filled 24 = .ok (.istore_n 2, 1) := by decide +kernel
theorem dX6_filled_25 : decode cX6_filled 25 = .ok (.iload_n 2, 1) := by decide +kernel
theorem dX6_filled_26 : decode cX6_filled 26 = .ok (.sipush 300, 3) := by decide +kernel
theorem dX6_filled_29 : decode cX6_filled 29 = .ok (.if_icmp .gt 23, 3) := by decide +kernel
theorem dX6_filled_32 : decode cX6_filled 32 = .ok (.aload_n 0, 1) := by decide +kernel
theorem dX6_filled_33 : decode cX6_filled 33 = .ok (.getfield 7, 3) := by decide +kernel
theorem dX6_filled_36 : decode cX6_filled 36 = .ok (.iconst 2, 1) := by decide +kernel
theorem dX6_filled_37 : decode cX6_filled 37 = .ok (.iaload, 1) := by decide +kernel
theorem dX6_filled_38 : decode cX6_filled 38 = .ok (.iload_n 1, 1) := by decide +kernel
theorem dX6_filled_39 : decode cX6_filled 39 = .ok (.if_icmp .ge 13, 3) := by decide +kernel
theorem dX6_filled_42 : decode cX6_filled 42 = .ok (.aload_n 0, 1) := by decide +kernel
theorem dX6_filled_43 : decode cX6_filled 43 = .ok (.invokevirtual 138, 3) := by decide +kernel
theorem dX6_filled_46 : decode cX6_filled 46 = .ok (.iinc 2 1, 3) := by decide +kernel
theorem dX6_filled_49 : decode cX6_filled 49 = .ok (.goto (-24), 3) := by decide +kernel
theorem dX6_filled_52 : decode cX6_filled 52 = .ok (.aload_n 0, 1) := by decide +kernel
theorem dX6_filled_53 : decode cX6_filled 53 = .ok (.aload_n 0, 1) := by decide +kernel
theorem dX6_filled_54 : decode cX6_filled 54 = .ok (.iload_n 2, 1) := by decide +kernel
theorem dX6_filled_55 : decode cX6_filled 55 = .ok (.invokevirtual 154, 3) := by decide +kernel
theorem dX6_filled_58 : decode cX6_filled 58 = .ok (.invokevirtual 163, 3) := by decide +kernel
theorem dX6_filled_61 : decode cX6_filled 61 = .ok (.ireturn, 1) := by decide +kernel
theorem dX6_isAsAside_0 : decode cX6_isAsAside 0 = .ok (.aload_n 0, 1) := by decide +kernel
theorem dX6_isAsAside_1 : decode cX6_isAsAside 1 = .ok (.getfield 7, 3) := by decide +kernel
theorem dX6_isAsAside_4 : decode cX6_isAsAside 4 = .ok (.iconst 3, 1) := by decide +kernel
theorem dX6_isAsAside_5 : decode cX6_isAsAside 5 = .ok (.iaload, 1) := by decide +kernel
theorem dX6_isAsAside_6 : decode cX6_isAsAside 6 = .ok (.aload_n 0, 1) := by decide +kernel
theorem dX6_isAsAside_7 : decode cX6_isAsAside 7 = .ok (.getfield 19, 3) := by decide +kernel
theorem dX6_isAsAside_10 : decode cX6_isAsAside 10 = .ok (.iconst 3, 1) := by decide +kernel
theorem dX6_isAsAside_11 : decode cX6_isAsAside 11 = .ok (.iaload, 1) := by decide +kernel
theorem dX6_isAsAside_12 : decode cX6_isAsAside 12 = .ok (.if_icmp .ne 7, 3) := by decide +kernel
theorem dX6_isAsAside_15 : decode cX6_isAsAside 15 = .ok (.iconst 1, 1) := by decide +kernel
theorem dX6_isAsAside_16 : decode cX6_isAsAside 16 = .ok (.goto 4, 3) := by decide +kernel
theorem dX6_isAsAside_19 : decode cX6_isAsAside 19 = .ok (.iconst 0, 1) := by decide +kernel
theorem dX6_isAsAside_20 : decode cX6_isAsAside 20 = .ok (.istore_n 1, 1) := by decide +kernel
theorem dX6_isAsAside_21 : decode cX6_isAsAside 21 = .ok (.bipush 7, 2) := by decide +kernel
theorem dX6_isAsAside_23 : decode cX6_isAsAside 23 = .ok (.istore_n 2, 1) := by decide +kernel
theorem dX6_isAsAside_24 : decode cX6_isAsAside 24 = .ok (.iload_n 2, 1) := by decide +kernel
theorem dX6_isAsAside_25 : decode cX6_isAsAside 25 = .ok (.bipush 71, 2) := by decide +kernel
theorem dX6_isAsAside_27 : decode cX6_isAsAside 27 = .ok (.if_icmp .ge 34, 3) := by decide +kernel
theorem dX6_isAsAside_30 : decode cX6_isAsAside 30 = .ok (.iload_n 1, 1) := by decide +kernel
theorem dX6_isAsAside_31 : decode cX6_isAsAside 31 = .ok (.ifCond .eq 30, 3) := by decide +kernel
theorem dX6_isAsAside_34 : decode cX6_isAsAside 34 = .ok (.aload_n 0, 1) := by decide +kernel
theorem dX6_isAsAside_35 : decode cX6_isAsAside 35 = .ok (.getfield 7, 3) := by decide +kernel
theorem dX6_isAsAside_38 : decode cX6_isAsAside 38 = .ok (.iload_n 2, 1) := by decide +kernel
theorem dX6_isAsAside_39 : decode cX6_isAsAside 39 = .ok (.iaload, 1) := by decide +kernel
theorem dX6_isAsAside_40 : decode cX6_isAsAside 40 = .ok (.aload_n 0, 1) := by decide +kernel
theorem dX6_isAsAside_41 : decode cX6_isAsAside 41 = .ok (.getfield 19, 3) := by decide +kernel
theorem dX6_isAsAside_44 : decode cX6_isAsAside 44 = .ok (.iload_n 2, 1) := by decide +kernel
theorem dX6_isAsAside_45 : decode cX6_isAsAside 45 = .ok (.iaload, 1) := by decide +kernel
theorem dX6_isAsAside_46 : decode cX6_isAsAside 46 = .ok (.if_icmp .ne 7, 3) := by decide +kernel
theorem dX6_isAsAside_49 : decode cX6_isAsAside 49 = .ok (.iconst 1, 1) := by decide +kernel
theorem dX6_isAsAside_50 : decode cX6_isAsAside 50 = .ok (.goto 4, 3) := by decide +kernel
theorem dX6_isAsAside_53 : decode cX6_isAsAside 53 = .ok (.iconst 0, 1) := by decide +kernel
theorem dX6_isAsAside_54 : decode cX6_isAsAside 54 = .ok (.istore_n 1, 1) := by decide +kernel
theorem dX6_isAsAside_55 : decode cX6_isAsAside 55 = .ok (.iinc 2 1, 3) := by decide +kernel
theorem dX6_isAsAside_58 : decode cX6_isAsAside 58 = .ok (.goto (-34), 3) := by decide +kernel
theorem dX6_isAsAside_61 : decode cX6_isAsAside 61 = .ok (.iload_n 1, 1) := by decide +kernel
theorem dX6_isAsAside_62 : decode cX6_isAsAside 62 = .ok (.ireturn, 1) := by decide +kernel
theorem dX6_round_0 : decode cX6_round 0 = .ok (.aload_n 0, 1) := by decide +kernel
theorem dX6_round_1 : decode cX6_round 1 = .ok (.invokevirtual 151, 3) := by decide +kernel
theorem dX6_round_4 : decode cX6_round 4 = .ok (.iconst 1, 1) := by decide +kernel
theorem dX6_round_5 : decode cX6_round 5 = .ok (.istore_n 1, 1) := by decide +kernel
theorem dX6_round_6 : decode cX6_round 6 = .ok (.aload_n 0, 1) := by decide +kernel
theorem dX6_round_7 : decode cX6_round 7 = .ok (.invokevirtual 138, 3) := by decide +kernel
theorem dX6_round_10 : decode cX6_round 10 = .ok (.iload_n 1, 1) := by decide +kernel
theorem dX6_round_11 : decode cX6_round 11 = .ok (.sipush 300, 3) := by decide +kernel
theorem dX6_round_14 : decode cX6_round 14 = .ok (.if_icmp .gt 20, 3) := by decide +kernel
theorem dX6_round_17 : decode cX6_round 17 = .ok (.aload_n 0, 1) := by decide +kernel
theorem dX6_round_18 : decode cX6_round 18 = .ok (.invokevirtual 168, 3) := by decide +kernel
theorem dX6_round_21 : decode cX6_round 21 = .ok (.ifCond .ne 13, 3) := by decide +kernel
theorem dX6_round_24 : decode cX6_round 24 = .ok (.aload_n 0, 1) := by decide +kernel
theorem dX6_round_25 : decode cX6_round 25 = .ok (.invokevirtual 138, 3) := by decide +kernel
theorem dX6_round_28 : decode cX6_round 28 = .ok (.iinc 1 1, 3) := by decide +kernel
theorem dX6_round_31 : decode cX6_round 31 = .ok (.goto (-21), 3) := by decide +kernel
theorem dX6_round_34 : decode cX6_round 34 = .ok (.aload_n 0, 1) := by decide +kernel
theorem dX6_round_35 : decode cX6_round 35 = .ok (.aload_n 0, 1) := by decide +kernel
theorem dX6_round_36 : decode cX6_round 36 = .ok (.iload_n 1, 1) := by decide +kernel
theorem dX6_round_37 : decode cX6_round 37 = .ok (.invokevirtual 154, 3) := by decide +kernel
theorem dX6_round_40 : decode cX6_round 40 = .ok (.invokevirtual 163, 3) := by decide +kernel
theorem dX6_round_43 : decode cX6_round 43 = .ok (.ireturn, 1) := by decide +kernel
theorem dX6_isSoon_0 : decode cX6_isSoon 0 = .ok (.iload_n 0, 1) := by decide +kernel
theorem dX6_isSoon_1 : decode cX6_isSoon 1 = .ok (.i2l, 1) := by decide +kernel
theorem dX6_isSoon_2 : decode cX6_isSoon 2 = .ok (.lconst 0, 1) := by decide +kernel
theorem dX6_isSoon_3 : decode cX6_isSoon 3 = .ok (.ldc2_w 171, 3) := by decide +kernel
theorem dX6_isSoon_6 : decode cX6_isSoon 6 = .ok (.invokestatic 52, 3) := by decide +kernel
theorem dX6_isSoon_9 : decode cX6_isSoon 9 = .ok (.ireturn, 1) := by decide +kernel
theorem dX6_given_0 : decode cX6_given 0 = .ok (.aload_n 0, 1) := by decide +kernel
theorem dX6_given_1 : decode cX6_given 1 = .ok (.invokevirtual 151, 3) := by decide +kernel
theorem dX6_given_4 : decode cX6_given 4 = .ok (.aload_n 0, 1) := by decide +kernel
theorem dX6_given_5 : decode cX6_given 5 = .ok (.getfield 7, 3) := by decide +kernel
theorem dX6_given_8 : decode cX6_given 8 = .ok (.iconst 5, 1) := by decide +kernel
theorem dX6_given_9 : decode cX6_given 9 = .ok (.iload_n 1, 1) := by decide +kernel
theorem dX6_given_10 : decode cX6_given 10 = .ok (.iastore, 1) := by decide +kernel
theorem dX6_given_11 : decode cX6_given 11 = .ok (.aload_n 0, 1) := by decide +kernel
theorem dX6_given_12 : decode cX6_given 12 = .ok (.getfield 7, 3) := by decide +kernel
theorem dX6_given_15 : decode cX6_given 15 = .ok (.bipush 6, 2) := by decide +kernel
theorem dX6_given_17 : decode cX6_given 17 = .ok (.iload_n 2, 1) := by decide +kernel
theorem dX6_given_18 : decode cX6_given 18 = .ok (.iastore, 1) := by decide +kernel
theorem dX6_given_19 : decode cX6_given 19 = .ok (.aload_n 0, 1) := by decide +kernel
theorem dX6_given_20 : decode cX6_given 20 = .ok (.iconst 0, 1) := by decide +kernel
theorem dX6_given_21 : decode cX6_given 21 = .ok (.putfield 126, 3) := by decide +kernel
theorem dX6_given_24 : decode cX6_given 24 = .ok (.aload_n 0, 1) := by decide +kernel
theorem dX6_given_25 : decode cX6_given 25 = .ok (.iload_n 3, 1) := by decide +kernel
theorem dX6_given_26 : decode cX6_given 26 = .ok (.invokevirtual 145, 3) := by decide +kernel
theorem dX6_given_29 : decode cX6_given 29 = .ok (.aload_n 0, 1) := by decide +kernel
theorem dX6_given_30 : decode cX6_given 30 = .ok (.aload_n 0, 1) := by decide +kernel
theorem dX6_given_31 : decode cX6_given 31 = .ok (.getfield 126, 3) := by decide +kernel
theorem dX6_given_34 : decode cX6_given 34 = .ok (.invokevirtual 154, 3) := by decide +kernel
theorem dX6_given_37 : decode cX6_given 37 = .ok (.ireturn, 1) := by decide +kernel
theorem dX6_gives_0 : decode cX6_gives 0 = .ok (.aload_n 0, 1) := by decide +kernel
theorem dX6_gives_1 : decode cX6_gives 1 = .ok (.iload_n 1, 1) := by decide +kernel
theorem dX6_gives_2 : decode cX6_gives 2 = .ok (.iload_n 2, 1) := by decide +kernel
theorem dX6_gives_3 : decode cX6_gives 3 = .ok (.invokevirtual 115, 3) := by decide +kernel
theorem dX6_gives_6 : decode cX6_gives 6 = .ok (.ifCond .eq 20, 3) := by decide +kernel
theorem dX6_gives_9 : decode cX6_gives 9 = .ok (.iload_n 3, 1) := by decide +kernel
theorem dX6_gives_10 : decode cX6_gives 10 = .ok (.invokestatic 173, 3) := by decide +kernel
theorem dX6_gives_13 : decode cX6_gives 13 = .ok (.ifCond .eq 13, 3) := by decide +kernel
theorem dX6_gives_16 : decode cX6_gives 16 = .ok (.aload_n 0, 1) := by decide +kernel
theorem dX6_gives_17 : decode cX6_gives 17 = .ok (.iload_n 1, 1) := by decide +kernel
theorem dX6_gives_18 : decode cX6_gives 18 = .ok (.iload_n 2, 1) := by decide +kernel
theorem dX6_gives_19 : decode cX6_gives 19 = .ok (.iload_n 3, 1) := by decide +kernel
theorem dX6_gives_20 : decode cX6_gives 20 = .ok (.invokevirtual 176, 3) := by decide +kernel
theorem dX6_gives_23 : decode cX6_gives 23 = .ok (.goto 9, 3) := by decide +kernel
theorem dX6_gives_26 : decode cX6_gives 26 = .ok (.aload_n 0, 1) := by decide +kernel
theorem dX6_gives_27 : decode cX6_gives 27 = .ok (.ldc 49, 2) := by decide +kernel
theorem dX6_gives_29 : decode cX6_gives 29 = .ok (.invokevirtual 73, 3) := by decide +kernel
theorem dX6_gives_32 : decode cX6_gives 32 = .ok (.ireturn, 1) := by decide +kernel
theorem dX6_best_0 : decode cX6_best 0 = .ok (.iload_n 1, 1) := by decide +kernel
theorem dX6_best_1 : decode cX6_best 1 = .ok (.invokestatic 173, 3) := by decide +kernel
theorem dX6_best_4 : decode cX6_best 4 = .ok (.ifCond .ne 10, 3) := by decide +kernel
theorem dX6_best_7 : decode cX6_best 7 = .ok (.aload_n 0, 1) := by decide +kernel
theorem dX6_best_8 : decode cX6_best 8 = .ok (.ldc 49, 2) := by decide +kernel
theorem dX6_best_10 : decode cX6_best 10 = .ok (.invokevirtual 73, 3) := by decide +kernel
theorem dX6_best_13 : decode cX6_best 13 = .ok (.ireturn, 1) := by decide +kernel
theorem dX6_best_14 : decode cX6_best 14 = .ok (.iconst (-1), 1) := by decide +kernel
theorem dX6_best_15 : decode cX6_best 15 = .ok (.istore_n 2, 1) := by decide +kernel
theorem dX6_best_16 : decode cX6_best 16 = .ok (.iconst (-1), 1) := by decide +kernel
theorem dX6_best_17 : decode cX6_best 17 = .ok (.istore_n 3, 1) := by decide +kernel
theorem dX6_best_18 : decode cX6_best 18 = .ok (.iconst 0, 1) := by decide +kernel
theorem dX6_best_19 : decode cX6_best 19 = .ok (.istore 4, 2) := by decide +kernel
theorem dX6_best_21 : decode cX6_best 21 = .ok (.iload 4, 2) := by decide +kernel
theorem dX6_best_23 : decode cX6_best 23 = .ok (.aload_n 0, 1) := by decide +kernel
theorem dX6_best_24 : decode cX6_best 24 = .ok (.getfield 7, 3) := by decide +kernel
theorem dX6_best_27 : decode cX6_best 27 = .ok (.iconst 1, 1) := by decide +kernel
theorem dX6_best_28 : decode cX6_best 28 = .ok (.iaload, 1) := by decide +kernel
theorem dX6_best_29 : decode cX6_best 29 = .ok (.if_icmp .ge 75, 3) := by decide +kernel
theorem dX6_best_32 : decode cX6_best 32 = .ok (.iload 4, 2) := by decide +kernel
theorem dX6_best_34 : decode cX6_best 34 = .ok (.iconst 1, 1) := by decide +kernel
theorem dX6_best_35 : decode cX6_best 35 = .ok (.iadd, 1) := by decide +kernel
theorem dX6_best_36 : decode cX6_best 36 = .ok (.istore 5, 2) := by decide +kernel
theorem dX6_best_38 : decode cX6_best 38 = .ok (.iload 5, 2) := by decide +kernel
theorem dX6_best_40 : decode cX6_best 40 = .ok (.aload_n 0, 1) := by decide +kernel
theorem dX6_best_41 : decode cX6_best 41 = .ok (.getfield 7, 3) := by decide +kernel
theorem dX6_best_44 : decode cX6_best 44 = .ok (.iconst 1, 1) := by decide +kernel
theorem dX6_best_45 : decode cX6_best 45 = .ok (.iaload, 1) := by decide +kernel
theorem dX6_best_46 : decode cX6_best 46 = .ok (.if_icmp .ge 52, 3) := by decide +kernel
theorem dX6_best_49 : decode cX6_best 49 = .ok (.aload_n 0, 1) := by decide +kernel
theorem dX6_best_50 : decode cX6_best 50 = .ok (.iload 4, 2) := by decide +kernel
theorem dX6_best_52 : decode cX6_best 52 = .ok (.iload 5, 2) := by decide +kernel
theorem dX6_best_54 : decode cX6_best 54 = .ok (.iload_n 1, 1) := by decide +kernel
theorem dX6_best_55 : decode cX6_best 55 = .ok (.invokevirtual 176, 3) := by decide +kernel
theorem dX6_best_58 : decode cX6_best 58 = .ok (.istore 6, 2) := by decide +kernel
theorem dX6_best_60 : decode cX6_best 60 = .ok (.iload 6, 2) := by decide +kernel
theorem dX6_best_62 : decode cX6_best 62 = .ok (.iload_n 3, 1) := by decide +kernel
theorem dX6_best_63 : decode cX6_best 63 = .ok (.if_icmp .le 14, 3) := by decide +kernel
theorem dX6_best_66 : decode cX6_best 66 = .ok (.bipush 8, 2) := by decide +kernel
theorem dX6_best_68 : decode cX6_best 68 = .ok (.iload 4, 2) := by decide +kernel
theorem dX6_best_70 : decode cX6_best 70 = .ok (.imul, 1) := by decide +kernel
theorem dX6_best_71 : decode cX6_best 71 = .ok (.iload 5, 2) := by decide +kernel
theorem dX6_best_73 : decode cX6_best 73 = .ok (.iadd, 1) := by decide +kernel
theorem dX6_best_74 : decode cX6_best 74 = .ok (.goto 4, 3) := by decide +kernel
theorem dX6_best_77 : decode cX6_best 77 = .ok (.iload_n 2, 1) := by decide +kernel
theorem dX6_best_78 : decode cX6_best 78 = .ok (.istore_n 2, 1) := by decide +kernel
theorem dX6_best_79 : decode cX6_best 79 = .ok (.iload 6, 2) := by decide +kernel
theorem dX6_best_81 : decode cX6_best 81 = .ok (.iload_n 3, 1) := by decide +kernel
theorem dX6_best_82 : decode cX6_best 82 = .ok (.if_icmp .le 8, 3) := by decide +kernel
theorem dX6_best_85 : decode cX6_best 85 = .ok (.iload 6, 2) := by decide +kernel
theorem dX6_best_87 : decode cX6_best 87 = .ok (.goto 4, 3) := by decide +kernel
theorem dX6_best_90 : decode cX6_best 90 = .ok (.iload_n 3, 1) := by decide +kernel
theorem dX6_best_91 : decode cX6_best 91 = .ok (.istore_n 3, 1) := by decide +kernel
theorem dX6_best_92 : decode cX6_best 92 = .ok (.iinc 5 1, 3) := by decide +kernel
theorem dX6_best_95 : decode cX6_best 95 = .ok (.goto (-57), 3) := by decide +kernel
theorem dX6_best_98 : decode cX6_best 98 = .ok (.iinc 4 1, 3) := by decide +kernel
theorem dX6_best_101 : decode cX6_best 101 = .ok (.goto (-80), 3) := by decide +kernel
theorem dX6_best_104 : decode cX6_best 104 = .ok (.iload_n 2, 1) := by decide +kernel
theorem dX6_best_105 : decode cX6_best 105 = .ok (.ifCond .ge 12, 3) := by decide +kernel
theorem dX6_best_108 : decode cX6_best 108 = .ok (.aload_n 0, 1) := by decide +kernel
theorem dX6_best_109 : decode cX6_best 109 = .ok (.ldc 162, 2) := by decide +kernel
theorem dX6_best_111 : decode cX6_best 111 = .ok (.invokevirtual 73, 3) := by decide +kernel
theorem dX6_best_114 : decode cX6_best 114 = .ok (.goto 4, 3) := by decide +kernel
theorem dX6_best_117 : decode cX6_best 117 = .ok (.iload_n 2, 1) := by decide +kernel
theorem dX6_best_118 : decode cX6_best 118 = .ok (.ireturn, 1) := by decide +kernel
theorem dX6_partner_0 : decode cX6_partner 0 = .ok (.aload_n 0, 1) := by decide +kernel
theorem dX6_partner_1 : decode cX6_partner 1 = .ok (.iload_n 1, 1) := by decide +kernel
theorem dX6_partner_2 : decode cX6_partner 2 = .ok (.invokevirtual 56, 3) := by decide +kernel
theorem dX6_partner_5 : decode cX6_partner 5 = .ok (.ifCond .eq 10, 3) := by decide +kernel
theorem dX6_partner_8 : decode cX6_partner 8 = .ok (.iload_n 2, 1) := by decide +kernel
theorem dX6_partner_9 : decode cX6_partner 9 = .ok (.invokestatic 173, 3) := by decide +kernel
theorem dX6_partner_12 : decode cX6_partner 12 = .ok (.ifCond .ne 10, 3) := by decide +kernel
theorem dX6_partner_15 : decode cX6_partner 15 = .ok (.aload_n 0, 1) := by decide +kernel
theorem dX6_partner_16 : decode cX6_partner 16 = .ok (.ldc 49, 2) := by decide +kernel
theorem dX6_partner_18 : decode cX6_partner 18 = .ok (.invokevirtual 73, 3) := by decide +kernel
theorem dX6_partner_21 : decode cX6_partner 21 = .ok (.ireturn, 1) := by decide +kernel
theorem dX6_partner_22 : decode cX6_partner 22 = .ok (.iconst (-1), 1) := by decide +kernel
theorem dX6_partner_23 : decode cX6_partner 23 = .ok (.istore_n 3, 1) := by decide +kernel
theorem dX6_partner_24 : decode cX6_partner 24 = .ok (.iconst (-1), 1) := by decide +kernel
theorem dX6_partner_25 : decode cX6_partner 25 = .ok (.istore 4, 2) := by decide +kernel
theorem dX6_partner_27 : decode cX6_partner 27 = .ok (.iconst 0, 1) := by decide +kernel
theorem dX6_partner_28 : decode cX6_partner 28 = .ok (.istore 5, 2) := by decide +kernel
theorem dX6_partner_30 : decode cX6_partner 30 = .ok (.iload 5, 2) := by decide +kernel
theorem dX6_partner_32 : decode cX6_partner 32 = .ok (.aload_n 0, 1) := by decide +kernel
theorem dX6_partner_33 : decode cX6_partner 33 = .ok (.getfield 7, 3) := by decide +kernel
theorem dX6_partner_36 : decode cX6_partner 36 = .ok (.iconst 1, 1) := by decide +kernel
theorem dX6_partner_37 : decode cX6_partner 37 = .ok (.iaload, 1) := by decide +kernel
theorem dX6_partner_38 : decode cX6_partner 38 = .ok (.if_icmp .ge 59, 3) := by decide +kernel
theorem dX6_partner_41 : decode cX6_partner 41 = .ok (.iload 5, 2) := by decide +kernel
theorem dX6_partner_43 : decode cX6_partner 43 = .ok (.iload_n 1, 1) := by decide +kernel
theorem dX6_partner_44 : decode cX6_partner 44 = .ok (.if_icmp .ne 7, 3) := by decide +kernel
theorem dX6_partner_47 : decode cX6_partner 47 = .ok (.iconst (-1), 1) := by decide +kernel
theorem dX6_partner_48 : decode cX6_partner 48 = .ok (.goto 11, 3) := by decide +kernel
theorem dX6_partner_51 : decode cX6_partner 51 = .ok (.aload_n 0, 1) := by decide +kernel
theorem dX6_partner_52 : decode cX6_partner 52 = .ok (.iload_n 1, 1) := by decide +kernel
theorem dX6_partner_53 : decode cX6_partner 53 = .ok (.iload 5, 2) := by decide +kernel
theorem dX6_partner_55 : decode cX6_partner 55 = .ok (.iload_n 2, 1) := by decide +kernel
theorem dX6_partner_56 : decode cX6_partner 56 = .ok (.invokevirtual 176, 3) := by decide +kernel
theorem dX6_partner_59 : decode cX6_partner 59 = .ok (.istore 6, 2) := by decide +kernel
theorem dX6_partner_61 : decode cX6_partner 61 = .ok (.iload 6, 2) := by decide +kernel
theorem dX6_partner_63 : decode cX6_partner 63 = .ok (.iload 4, 2) := by decide +kernel
theorem dX6_partner_65 : decode cX6_partner 65 = .ok (.if_icmp .le 8, 3) := by decide +kernel
theorem dX6_partner_68 : decode cX6_partner 68 = .ok (.iload 5, 2) := by decide +kernel
theorem dX6_partner_70 : decode cX6_partner 70 = .ok (.goto 4, 3) := by decide +kernel
theorem dX6_partner_73 : decode cX6_partner 73 = .ok (.iload_n 3, 1) := by decide +kernel
theorem dX6_partner_74 : decode cX6_partner 74 = .ok (.istore_n 3, 1) := by decide +kernel
theorem dX6_partner_75 : decode cX6_partner 75 = .ok (.iload 6, 2) := by decide +kernel
theorem dX6_partner_77 : decode cX6_partner 77 = .ok (.iload 4, 2) := by decide +kernel
theorem dX6_partner_79 : decode cX6_partner 79 = .ok (.if_icmp .le 8, 3) := by decide +kernel
theorem dX6_partner_82 : decode cX6_partner 82 = .ok (.iload 6, 2) := by decide +kernel
theorem dX6_partner_84 : decode cX6_partner 84 = .ok (.goto 5, 3) := by decide +kernel
theorem dX6_partner_87 : decode cX6_partner 87 = .ok (.iload 4, 2) := by decide +kernel
theorem dX6_partner_89 : decode cX6_partner 89 = .ok (.istore 4, 2) := by decide +kernel
theorem dX6_partner_91 : decode cX6_partner 91 = .ok (.iinc 5 1, 3) := by decide +kernel
theorem dX6_partner_94 : decode cX6_partner 94 = .ok (.goto (-64), 3) := by decide +kernel
theorem dX6_partner_97 : decode cX6_partner 97 = .ok (.iload_n 3, 1) := by decide +kernel
theorem dX6_partner_98 : decode cX6_partner 98 = .ok (.ifCond .ge 12, 3) := by decide +kernel
theorem dX6_partner_101 : decode cX6_partner 101 = .ok (.aload_n 0, 1) := by decide +kernel
theorem dX6_partner_102 : decode cX6_partner 102 = .ok (.ldc 162, 2) := by decide +kernel
theorem dX6_partner_104 : decode cX6_partner 104 = .ok (.invokevirtual 73, 3) := by decide +kernel
theorem dX6_partner_107 : decode cX6_partner 107 = .ok (.goto 4, 3) := by decide +kernel
theorem dX6_partner_110 : decode cX6_partner 110 = .ok (.iload_n 3, 1) := by decide +kernel
theorem dX6_partner_111 : decode cX6_partner 111 = .ok (.ireturn, 1) := by decide +kernel
theorem dX6_mostBy_0 : decode cX6_mostBy 0 = .ok (.aload_n 0, 1) := by decide +kernel
theorem dX6_mostBy_1 : decode cX6_mostBy 1 = .ok (.getfield 7, 3) := by decide +kernel
theorem dX6_mostBy_4 : decode cX6_mostBy 4 = .ok (.iload_n 1, 1) := by decide +kernel
theorem dX6_mostBy_5 : decode cX6_mostBy 5 = .ok (.iaload, 1) := by decide +kernel
theorem dX6_mostBy_6 : decode cX6_mostBy 6 = .ok (.istore 7, 2) := by decide +kernel
theorem dX6_mostBy_8 : decode cX6_mostBy 8 = .ok (.iload_n 2, 1) := by decide +kernel
theorem dX6_mostBy_9 : decode cX6_mostBy 9 = .ok (.istore 8, 2) := by decide +kernel
theorem dX6_mostBy_11 : decode cX6_mostBy 11 = .ok (.iconst (-1), 1) := by decide +kernel
theorem dX6_mostBy_12 : decode cX6_mostBy 12 = .ok (.istore 9, 2) := by decide +kernel
theorem dX6_mostBy_14 : decode cX6_mostBy 14 = .ok (.iload_n 2, 1) := by decide +kernel
theorem dX6_mostBy_15 : decode cX6_mostBy 15 = .ok (.istore 10, 2) := by decide +kernel
theorem dX6_mostBy_17 : decode cX6_mostBy 17 = .ok (.iload 10, 2) := by decide +kernel
theorem dX6_mostBy_19 : decode cX6_mostBy 19 = .ok (.iload_n 3, 1) := by decide +kernel
theorem dX6_mostBy_20 : decode cX6_mostBy 20 = .ok (.if_icmp .gt 61, 3) := by decide +kernel
theorem dX6_mostBy_23 : decode cX6_mostBy 23 = .ok (.aload_n 0, 1) := by decide +kernel
theorem dX6_mostBy_24 : decode cX6_mostBy 24 = .ok (.getfield 7, 3) := by decide +kernel
theorem dX6_mostBy_27 : decode cX6_mostBy 27 = .ok (.iload_n 1, 1) := by decide +kernel
theorem dX6_mostBy_28 : decode cX6_mostBy 28 = .ok (.iload 10, 2) := by decide +kernel
theorem dX6_mostBy_30 : decode cX6_mostBy 30 = .ok (.iastore, 1) := by decide +kernel
theorem dX6_mostBy_31 : decode cX6_mostBy 31 = .ok (.aload_n 0, 1) := by decide +kernel
theorem dX6_mostBy_32 : decode cX6_mostBy 32 = .ok (.iload 4, 2) := by decide +kernel
theorem dX6_mostBy_34 : decode cX6_mostBy 34 = .ok (.iload 5, 2) := by decide +kernel
theorem dX6_mostBy_36 : decode cX6_mostBy 36 = .ok (.iload 6, 2) := by decide +kernel
theorem dX6_mostBy_38 : decode cX6_mostBy 38 = .ok (.invokevirtual 176, 3) := by decide +kernel
theorem dX6_mostBy_41 : decode cX6_mostBy 41 = .ok (.istore 11, 2) := by decide +kernel
theorem dX6_mostBy_43 : decode cX6_mostBy 43 = .ok (.iload 11, 2) := by decide +kernel
theorem dX6_mostBy_45 : decode cX6_mostBy 45 = .ok (.iload 9, 2) := by decide +kernel
theorem dX6_mostBy_47 : decode cX6_mostBy 47 = .ok (.if_icmp .le 8, 3) := by decide +kernel
theorem dX6_mostBy_50 : decode cX6_mostBy 50 = .ok (.iload 10, 2) := by decide +kernel
theorem dX6_mostBy_52 : decode cX6_mostBy 52 = .ok (.goto 5, 3) := by decide +kernel
theorem dX6_mostBy_55 : decode cX6_mostBy 55 = .ok (.iload 8, 2) := by decide +kernel
theorem dX6_mostBy_57 : decode cX6_mostBy 57 = .ok (.istore 8, 2) := by decide +kernel
theorem dX6_mostBy_59 : decode cX6_mostBy 59 = .ok (.iload 11, 2) := by decide +kernel
theorem dX6_mostBy_61 : decode cX6_mostBy 61 = .ok (.iload 9, 2) := by decide +kernel
theorem dX6_mostBy_63 : decode cX6_mostBy 63 = .ok (.if_icmp .le 8, 3) := by decide +kernel
theorem dX6_mostBy_66 : decode cX6_mostBy 66 = .ok (.iload 11, 2) := by decide +kernel
theorem dX6_mostBy_68 : decode cX6_mostBy 68 = .ok (.goto 5, 3) := by decide +kernel
theorem dX6_mostBy_71 : decode cX6_mostBy 71 = .ok (.iload 9, 2) := by decide +kernel
theorem dX6_mostBy_73 : decode cX6_mostBy 73 = .ok (.istore 9, 2) := by decide +kernel
theorem dX6_mostBy_75 : decode cX6_mostBy 75 = .ok (.iinc 10 1, 3) := by decide +kernel
theorem dX6_mostBy_78 : decode cX6_mostBy 78 = .ok (.goto (-61), 3) := by decide +kernel
theorem dX6_mostBy_81 : decode cX6_mostBy 81 = .ok (.aload_n 0, 1) := by decide +kernel
theorem dX6_mostBy_82 : decode cX6_mostBy 82 = .ok (.getfield 7, 3) := by decide +kernel
theorem dX6_mostBy_85 : decode cX6_mostBy 85 = .ok (.iload_n 1, 1) := by decide +kernel
theorem dX6_mostBy_86 : decode cX6_mostBy 86 = .ok (.iload 7, 2) := by decide +kernel
theorem dX6_mostBy_88 : decode cX6_mostBy 88 = .ok (.iastore, 1) := by decide +kernel
theorem dX6_mostBy_89 : decode cX6_mostBy 89 = .ok (.iload 8, 2) := by decide +kernel
theorem dX6_mostBy_91 : decode cX6_mostBy 91 = .ok (.ireturn, 1) := by decide +kernel
theorem dX6_subjectFor_0 : decode cX6_subjectFor 0 = .ok (.aload_n 0, 1) := by decide +kernel
theorem dX6_subjectFor_1 : decode cX6_subjectFor 1 = .ok (.iload_n 1, 1) := by decide +kernel
theorem dX6_subjectFor_2 : decode cX6_subjectFor 2 = .ok (.iload_n 2, 1) := by decide +kernel
theorem dX6_subjectFor_3 : decode cX6_subjectFor 3 = .ok (.invokevirtual 115, 3) := by decide +kernel
theorem dX6_subjectFor_6 : decode cX6_subjectFor 6 = .ok (.ifCond .eq 23, 3) := by decide +kernel
theorem dX6_subjectFor_9 : decode cX6_subjectFor 9 = .ok (.iload_n 3, 1) := by decide +kernel
theorem dX6_subjectFor_10 : decode cX6_subjectFor 10 = .ok (.invokestatic 173, 3) := by decide +kernel
theorem dX6_subjectFor_13 : decode cX6_subjectFor 13 = .ok (.ifCond .eq 16, 3) := by decide +kernel
theorem dX6_subjectFor_16 : decode cX6_subjectFor 16 = .ok (.aload_n 0, 1) := by decide +kernel
theorem dX6_subjectFor_17 : decode cX6_subjectFor 17 = .ok (.iconst 3, 1) := by decide +kernel
theorem dX6_subjectFor_18 : decode cX6_subjectFor 18 = .ok (.iconst 0, 1) := by decide +kernel
theorem dX6_subjectFor_19 : decode cX6_subjectFor 19 = .ok (.iconst 5, 1) := by decide +kernel
theorem dX6_subjectFor_20 : decode cX6_subjectFor 20 = .ok (.iload_n 1, 1) := by decide +kernel
theorem dX6_subjectFor_21 : decode cX6_subjectFor 21 = .ok (.iload_n 2, 1) := by decide +kernel
theorem dX6_subjectFor_22 : decode cX6_subjectFor 22 = .ok (.iload_n 3, 1) := by decide +kernel
theorem dX6_subjectFor_23 : decode cX6_subjectFor 23 = .ok (.invokevirtual 179, 3) := by decide +kernel
theorem dX6_subjectFor_26 : decode cX6_subjectFor 26 = .ok (.goto 9, 3) := by decide +kernel
theorem dX6_subjectFor_29 : decode cX6_subjectFor 29 = .ok (.aload_n 0, 1) := by decide +kernel
theorem dX6_subjectFor_30 : decode cX6_subjectFor 30 = .ok (.ldc 49, 2) := by decide +kernel
theorem dX6_subjectFor_32 : decode cX6_subjectFor 32 = .ok (.invokevirtual 73, 3) := by decide +kernel
theorem dX6_subjectFor_35 : decode cX6_subjectFor 35 = .ok (.ireturn, 1) := by decide +kernel
theorem dX6_findMatches_0 : decode cX6_findMatches 0 = .ok (.iconst 0, 1) := by decide +kernel
theorem dX6_findMatches_1 : decode cX6_findMatches 1 = .ok (.istore_n 2, 1) := by decide +kernel
theorem dX6_findMatches_2 : decode cX6_findMatches 2 = .ok (.iload_n 2, 1) := by decide +kernel
theorem dX6_findMatches_3 : decode cX6_findMatches 3 = .ok (.aload_n 0, 1) := by decide +kernel
theorem dX6_findMatches_4 : decode cX6_findMatches 4 = .ok (.getfield 7, 3) := by decide +kernel
theorem dX6_findMatches_7 : decode cX6_findMatches 7 = .ok (.iconst 1, 1) := by decide +kernel
theorem dX6_findMatches_8 : decode cX6_findMatches 8 = .ok (.iaload, 1) := by decide +kernel
theorem dX6_findMatches_9 : decode cX6_findMatches 9 = .ok (.if_icmp .ge 47, 3) := by decide +kernel
theorem dX6_findMatches_12 : decode cX6_findMatches 12 = .ok (.iload_n 2, 1) := by decide +kernel
theorem dX6_findMatches_13 : decode cX6_findMatches 13 = .ok (.iconst 1, 1) := by decide +kernel
theorem dX6_findMatches_14 : decode cX6_findMatches 14 = .ok (.iadd, 1) := by decide +kernel
theorem dX6_findMatches_15 : decode cX6_findMatches 15 = .ok (.istore_n 3, 1) := by decide +kernel
theorem dX6_findMatches_16 : decode cX6_findMatches 16 = .ok (.iload_n 3, 1) := by decide +kernel
theorem dX6_findMatches_17 : decode cX6_findMatches 17 = .ok (.aload_n 0, 1) := by decide +kernel
theorem dX6_findMatches_18 : decode cX6_findMatches 18 = .ok (.getfield 7, 3) := by decide +kernel
theorem dX6_findMatches_21 : decode cX6_findMatches 21 = .ok (.iconst 1, 1) := by decide +kernel
theorem dX6_findMatches_22 : decode cX6_findMatches 22 = .ok (.iaload, 1) := by decide +kernel
theorem dX6_findMatches_23 : decode cX6_findMatches 23 = .ok (.if_icmp .ge 27, 3) := by decide +kernel
theorem dX6_findMatches_26 : decode cX6_findMatches 26 = .ok (.aload_n 0, 1) := by decide +kernel
theorem dX6_findMatches_27 : decode cX6_findMatches 27 = .ok (.getfield 25, 3) := by decide +kernel
theorem dX6_findMatches_30 : decode cX6_findMatches 30 = .ok (.bipush 8, 2) := by decide +kernel
theorem dX6_findMatches_32 : decode cX6_findMatches 32 = .ok (.iload_n 2, 1) := by decide +kernel
theorem dX6_findMatches_33 : decode cX6_findMatches 33 = .ok (.imul, 1) := by decide +kernel
theorem dX6_findMatches_34 : decode cX6_findMatches 34 = .ok (.iload_n 3, 1) := by decide +kernel
theorem dX6_findMatches_35 : decode cX6_findMatches 35 = .ok (.iadd, 1) := by decide +kernel
theorem dX6_findMatches_36 : decode cX6_findMatches 36 = .ok (.aload_n 0, 1) := by decide +kernel
theorem dX6_findMatches_37 : decode cX6_findMatches 37 = .ok (.iload_n 2, 1) := by decide +kernel
theorem dX6_findMatches_38 : decode cX6_findMatches 38 = .ok (.iload_n 3, 1) := by decide +kernel
theorem dX6_findMatches_39 : decode cX6_findMatches 39 = .ok (.iload_n 1, 1) := by decide +kernel
theorem dX6_findMatches_40 : decode cX6_findMatches 40 = .ok (.invokevirtual 176, 3) := by decide +kernel
theorem dX6_findMatches_43 : decode cX6_findMatches 43 = .ok (.iastore, 1) := by decide +kernel
theorem dX6_findMatches_44 : decode cX6_findMatches 44 = .ok (.iinc 3 1, 3) := by decide +kernel
theorem dX6_findMatches_47 : decode cX6_findMatches 47 = .ok (.goto (-31), 3) := by decide +kernel
theorem dX6_findMatches_50 : decode cX6_findMatches 50 = .ok (.iinc 2 1, 3) := by decide +kernel
theorem dX6_findMatches_53 : decode cX6_findMatches 53 = .ok (.goto (-51), 3) := by decide +kernel
theorem dX6_findMatches_56 : decode cX6_findMatches 56 = .ok (.iconst 0, 1) := by decide +kernel
theorem dX6_findMatches_57 : decode cX6_findMatches 57 = .ok (.istore_n 2, 1) := by decide +kernel
theorem dX6_findMatches_58 : decode cX6_findMatches 58 = .ok (.iload_n 2, 1) := by decide +kernel
theorem dX6_findMatches_59 : decode cX6_findMatches 59 = .ok (.iconst 1, 1) := by decide +kernel
theorem dX6_findMatches_60 : decode cX6_findMatches 60 = .ok (.aload_n 0, 1) := by decide +kernel
theorem dX6_findMatches_61 : decode cX6_findMatches 61 = .ok (.getfield 7, 3) := by decide +kernel
theorem dX6_findMatches_64 : decode cX6_findMatches 64 = .ok (.iconst 1, 1) := by decide +kernel
theorem dX6_findMatches_65 : decode cX6_findMatches 65 = .ok (.iaload, 1) := by decide +kernel
theorem dX6_findMatches_66 : decode cX6_findMatches 66 = .ok (.ishl, 1) := by decide +kernel
theorem dX6_findMatches_67 : decode cX6_findMatches 67 = .ok (.if_icmp .ge 133, 3) := by decide +kernel
theorem dX6_findMatches_70 : decode cX6_findMatches 70 = .ok (.aload_n 0, 1) := by decide +kernel
theorem dX6_findMatches_71 : decode cX6_findMatches 71 = .ok (.getfield 28, 3) := by decide +kernel
theorem dX6_findMatches_74 : decode cX6_findMatches 74 = .ok (.iload_n 2, 1) := by decide +kernel
theorem dX6_findMatches_75 : decode cX6_findMatches 75 = .ok (.iconst 0, 1) := by decide +kernel
theorem dX6_findMatches_76 : decode cX6_findMatches 76 = .ok (.iastore, 1) := by decide +kernel
theorem dX6_findMatches_77 : decode cX6_findMatches 77 = .ok (.iconst 0, 1) := by decide +kernel
theorem dX6_findMatches_78 : decode cX6_findMatches 78 = .ok (.istore_n 3, 1) := by decide +kernel
theorem dX6_findMatches_79 : decode cX6_findMatches 79 = .ok (.iload_n 3, 1) := by decide +kernel
theorem dX6_findMatches_80 : decode cX6_findMatches 80 = .ok (.aload_n 0, 1) := by decide +kernel
theorem dX6_findMatches_81 : decode cX6_findMatches 81 = .ok (.getfield 7, 3) := by decide +kernel
theorem dX6_findMatches_84 : decode cX6_findMatches 84 = .ok (.iconst 1, 1) := by decide +kernel
theorem dX6_findMatches_85 : decode cX6_findMatches 85 = .ok (.iaload, 1) := by decide +kernel
theorem dX6_findMatches_86 : decode cX6_findMatches 86 = .ok (.if_icmp .ge 108, 3) := by decide +kernel
theorem dX6_findMatches_89 : decode cX6_findMatches 89 = .ok (.iload_n 3, 1) := by decide +kernel
theorem dX6_findMatches_90 : decode cX6_findMatches 90 = .ok (.iconst 1, 1) := by decide +kernel
theorem dX6_findMatches_91 : decode cX6_findMatches 91 = .ok (.iadd, 1) := by decide +kernel
theorem dX6_findMatches_92 : decode cX6_findMatches 92 = .ok (.istore 4, 2) := by decide +kernel
theorem dX6_findMatches_94 : decode cX6_findMatches 94 = .ok (.iload 4, 2) := by decide +kernel
theorem dX6_findMatches_96 : decode cX6_findMatches 96 = .ok (.aload_n 0, 1) := by decide +kernel
theorem dX6_findMatches_97 : decode cX6_findMatches 97 = .ok (.getfield 7, 3) := by decide +kernel
theorem dX6_findMatches_100 : decode cX6_findMatches 100 = .ok (.iconst 1, 1) := by decide +kernel
theorem dX6_findMatches_101 : decode cX6_findMatches 101 = .ok (.iaload, 1) := by decide +kernel
theorem dX6_findMatches_102 : decode cX6_findMatches 102 = .ok (.if_icmp .ge 86, 3) := by decide +kernel
theorem dX6_findMatches_105 : decode cX6_findMatches 105 = .ok (.iconst 1, 1) := by decide +kernel
theorem dX6_findMatches_106 : decode cX6_findMatches 106 = .ok (.iload_n 3, 1) := by decide +kernel
theorem dX6_findMatches_107 : decode cX6_findMatches 107 = .ok (.ishl, 1) := by decide +kernel
theorem dX6_findMatches_108 : decode cX6_findMatches 108 = .ok (.iconst 1, 1) := by decide +kernel
theorem dX6_findMatches_109 : decode cX6_findMatches 109 = .ok (.iload 4, 2) := by decide +kernel
theorem dX6_findMatches_111 : decode cX6_findMatches 111 = .ok (.ishl, 1) := by decide +kernel
theorem dX6_findMatches_112 : decode cX6_findMatches 112 = .ok (.ior, 1) := by decide +kernel
theorem dX6_findMatches_113 : decode cX6_findMatches 113 = .ok (.istore 5, 2) := by decide +kernel
theorem dX6_findMatches_115 : decode cX6_findMatches 115 = .ok (.iload_n 2, 1) := by decide +kernel
theorem dX6_findMatches_116 : decode cX6_findMatches 116 = .ok (.iload 5, 2) := by decide +kernel
theorem dX6_findMatches_118 : decode cX6_findMatches 118 = .ok (.iand, 1) := by decide +kernel
theorem dX6_findMatches_119 : decode cX6_findMatches 119 = .ok (.iload 5, 2) := by decide +kernel
theorem dX6_findMatches_121 : decode cX6_findMatches 121 = .ok (.if_icmp .ne 30, 3) := by decide +kernel
theorem dX6_findMatches_124 : decode cX6_findMatches 124 = .ok (.aload_n 0, 1) := by decide +kernel
theorem dX6_findMatches_125 : decode cX6_findMatches 125 = .ok (.getfield 25, 3) := by decide +kernel
theorem dX6_findMatches_128 : decode cX6_findMatches 128 = .ok (.bipush 8, 2) := by decide +kernel
theorem dX6_findMatches_130 : decode cX6_findMatches 130 = .ok (.iload_n 3, 1) := by decide +kernel
theorem dX6_findMatches_131 : decode cX6_findMatches 131 = .ok (.imul, 1) := by decide +kernel
theorem dX6_findMatches_132 : decode cX6_findMatches 132 = .ok (.iload 4, 2) := by decide +kernel
theorem dX6_findMatches_134 : decode cX6_findMatches 134 = .ok (.iadd, 1) := by decide +kernel
theorem dX6_findMatches_135 : decode cX6_findMatches 135 = .ok (.iaload, 1) := by decide +kernel
theorem dX6_findMatches_136 : decode cX6_findMatches 136 = .ok (.aload_n 0, 1) := by decide +kernel
theorem dX6_findMatches_137 : decode cX6_findMatches 137 = .ok (.getfield 28, 3) := by decide +kernel
theorem dX6_findMatches_140 : decode cX6_findMatches 140 = .ok (.iload_n 2, 1) := by decide +kernel
theorem dX6_findMatches_141 : decode cX6_findMatches 141 = .ok (.iload 5, 2) := by decide +kernel
theorem dX6_findMatches_143 : decode cX6_findMatches 143 = .ok (.iconst (-1), 1) := by decide +kernel
theorem dX6_findMatches_144 : decode cX6_findMatches 144 = .ok (.ixor, 1) := by decide +kernel
theorem dX6_findMatches_145 : decode cX6_findMatches 145 = .ok (.iand, 1) := by decide +kernel
theorem dX6_findMatches_146 : decode cX6_findMatches 146 = .ok (.iaload, 1) := by decide +kernel
theorem dX6_findMatches_147 : decode cX6_findMatches 147 = .ok (.iadd, 1) := by decide +kernel
theorem dX6_findMatches_148 : decode cX6_findMatches 148 = .ok (.goto 4, 3) := by decide +kernel
theorem dX6_findMatches_151 : decode cX6_findMatches 151 = .ok (.iconst 0, 1) := by decide +kernel
theorem dX6_findMatches_152 : decode cX6_findMatches 152 = .ok (.istore 6, 2) := by decide +kernel
theorem dX6_findMatches_154 : decode cX6_findMatches 154 = .ok (.aload_n 0, 1) := by decide +kernel
theorem dX6_findMatches_155 : decode cX6_findMatches 155 = .ok (.getfield 28, 3) := by decide +kernel
theorem dX6_findMatches_158 : decode cX6_findMatches 158 = .ok (.iload_n 2, 1) := by decide +kernel
theorem dX6_findMatches_159 : decode cX6_findMatches 159 = .ok (.iload 6, 2) := by decide +kernel
theorem dX6_findMatches_161 : decode cX6_findMatches 161 = .ok (.aload_n 0, 1) := by decide +kernel
theorem dX6_findMatches_162 : decode cX6_findMatches 162 = .ok (.getfield 28, 3) := by decide +kernel
theorem dX6_findMatches_165 : decode cX6_findMatches 165 = .ok (.iload_n 2, 1) := by decide +kernel
theorem dX6_findMatches_166 : decode cX6_findMatches 166 = .ok (.iaload, 1) := by decide +kernel
theorem dX6_findMatches_167 : decode cX6_findMatches 167 = .ok (.if_icmp .le 8, 3) := by decide +kernel
theorem dX6_findMatches_170 : decode cX6_findMatches 170 = .ok (.iload 6, 2) := by decide +kernel
theorem dX6_findMatches_172 : decode cX6_findMatches 172 = .ok (.goto 9, 3) := by decide +kernel
theorem dX6_findMatches_175 : decode cX6_findMatches 175 = .ok (.aload_n 0, 1) := by decide +kernel
theorem dX6_findMatches_176 : decode cX6_findMatches 176 = .ok (.getfield 28, 3) := by decide +kernel
theorem dX6_findMatches_179 : decode cX6_findMatches 179 = .ok (.iload_n 2, 1) := by decide +kernel
theorem dX6_findMatches_180 : decode cX6_findMatches 180 = .ok (.iaload, 1) := by decide +kernel
theorem dX6_findMatches_181 : decode cX6_findMatches 181 = .ok (.iastore, 1) := by decide +kernel
theorem dX6_findMatches_182 : decode cX6_findMatches 182 = .ok (.iinc 4 1, 3) := by decide +kernel
theorem dX6_findMatches_185 : decode cX6_findMatches 185 = .ok (.goto (-91), 3) := by decide +kernel
theorem dX6_findMatches_188 : decode cX6_findMatches 188 = .ok (.iinc 3 1, 3) := by decide +kernel
theorem dX6_findMatches_191 : decode cX6_findMatches 191 = .ok (.goto (-112), 3) := by decide +kernel
theorem dX6_findMatches_194 : decode cX6_findMatches 194 = .ok (.iinc 2 1, 3) := by decide +kernel
theorem dX6_findMatches_197 : decode cX6_findMatches 197 = .ok (.goto (-139), 3) := by decide +kernel
theorem dX6_findMatches_200 : decode cX6_findMatches 200 = .ok (.return_, 1) := by decide +kernel
theorem dX6_matched_0 : decode cX6_matched 0 = .ok (.iload_n 1, 1) := by decide +kernel
theorem dX6_matched_1 : decode cX6_matched 1 = .ok (.i2l, 1) := by decide +kernel
theorem dX6_matched_2 : decode cX6_matched 2 = .ok (.lconst 0, 1) := by decide +kernel
theorem dX6_matched_3 : decode cX6_matched 3 = .ok (.ldc2_w 183, 3) := by decide +kernel
theorem dX6_matched_6 : decode cX6_matched 6 = .ok (.invokestatic 52, 3) := by decide +kernel
theorem dX6_matched_9 : decode cX6_matched 9 = .ok (.ifCond .ne 10, 3) := by decide +kernel
theorem dX6_matched_12 : decode cX6_matched 12 = .ok (.aload_n 0, 1) := by decide +kernel
theorem dX6_matched_13 : decode cX6_matched 13 = .ok (.ldc 49, 2) := by decide +kernel
theorem dX6_matched_15 : decode cX6_matched 15 = .ok (.invokevirtual 73, 3) := by decide +kernel
theorem dX6_matched_18 : decode cX6_matched 18 = .ok (.ireturn, 1) := by decide +kernel
theorem dX6_matched_19 : decode cX6_matched 19 = .ok (.aload_n 0, 1) := by decide +kernel
theorem dX6_matched_20 : decode cX6_matched 20 = .ok (.iload_n 1, 1) := by decide +kernel
theorem dX6_matched_21 : decode cX6_matched 21 = .ok (.invokevirtual 185, 3) := by decide +kernel
theorem dX6_matched_24 : decode cX6_matched 24 = .ok (.aload_n 0, 1) := by decide +kernel
theorem dX6_matched_25 : decode cX6_matched 25 = .ok (.getfield 28, 3) := by decide +kernel
theorem dX6_matched_28 : decode cX6_matched 28 = .ok (.iconst 1, 1) := by decide +kernel
theorem dX6_matched_29 : decode cX6_matched 29 = .ok (.aload_n 0, 1) := by decide +kernel
theorem dX6_matched_30 : decode cX6_matched 30 = .ok (.getfield 7, 3) := by decide +kernel
theorem dX6_matched_33 : decode cX6_matched 33 = .ok (.iconst 1, 1) := by decide +kernel
theorem dX6_matched_34 : decode cX6_matched 34 = .ok (.iaload, 1) := by decide +kernel
theorem dX6_matched_35 : decode cX6_matched 35 = .ok (.ishl, 1) := by decide +kernel
theorem dX6_matched_36 : decode cX6_matched 36 = .ok (.iconst 1, 1) := by decide +kernel
theorem dX6_matched_37 : decode cX6_matched 37 = .ok (.isub, 1) := by decide +kernel
theorem dX6_matched_38 : decode cX6_matched 38 = .ok (.iaload, 1) := by decide +kernel
theorem dX6_matched_39 : decode cX6_matched 39 = .ok (.ireturn, 1) := by decide +kernel
theorem dX6_matchOf_0 : decode cX6_matchOf 0 = .ok (.aload_n 0, 1) := by decide +kernel
theorem dX6_matchOf_1 : decode cX6_matchOf 1 = .ok (.iload_n 1, 1) := by decide +kernel
theorem dX6_matchOf_2 : decode cX6_matchOf 2 = .ok (.invokevirtual 56, 3) := by decide +kernel
theorem dX6_matchOf_5 : decode cX6_matchOf 5 = .ok (.ifCond .eq 15, 3) := by decide +kernel
theorem dX6_matchOf_8 : decode cX6_matchOf 8 = .ok (.iload_n 2, 1) := by decide +kernel
theorem dX6_matchOf_9 : decode cX6_matchOf 9 = .ok (.i2l, 1) := by decide +kernel
theorem dX6_matchOf_10 : decode cX6_matchOf 10 = .ok (.lconst 0, 1) := by decide +kernel
theorem dX6_matchOf_11 : decode cX6_matchOf 11 = .ok (.ldc2_w 183, 3) := by decide +kernel
theorem dX6_matchOf_14 : decode cX6_matchOf 14 = .ok (.invokestatic 52, 3) := by decide +kernel
theorem dX6_matchOf_17 : decode cX6_matchOf 17 = .ok (.ifCond .ne 10, 3) := by decide +kernel
theorem dX6_matchOf_20 : decode cX6_matchOf 20 = .ok (.aload_n 0, 1) := by decide +kernel
theorem dX6_matchOf_21 : decode cX6_matchOf 21 = .ok (.ldc 49, 2) := by decide +kernel
theorem dX6_matchOf_23 : decode cX6_matchOf 23 = .ok (.invokevirtual 73, 3) := by decide +kernel
theorem dX6_matchOf_26 : decode cX6_matchOf 26 = .ok (.ireturn, 1) := by decide +kernel
theorem dX6_matchOf_27 : decode cX6_matchOf 27 = .ok (.aload_n 0, 1) := by decide +kernel
theorem dX6_matchOf_28 : decode cX6_matchOf 28 = .ok (.iload_n 2, 1) := by decide +kernel
theorem dX6_matchOf_29 : decode cX6_matchOf 29 = .ok (.invokevirtual 185, 3) := by decide +kernel
theorem dX6_matchOf_32 : decode cX6_matchOf 32 = .ok (.iconst 1, 1) := by decide +kernel
theorem dX6_matchOf_33 : decode cX6_matchOf 33 = .ok (.aload_n 0, 1) := by decide +kernel
theorem dX6_matchOf_34 : decode cX6_matchOf 34 = .ok (.getfield 7, 3) := by decide +kernel
theorem dX6_matchOf_37 : decode cX6_matchOf 37 = .ok (.iconst 1, 1) := by decide +kernel
theorem dX6_matchOf_38 : decode cX6_matchOf 38 = .ok (.iaload, 1) := by decide +kernel
theorem dX6_matchOf_39 : decode cX6_matchOf 39 = .ok (.ishl, 1) := by decide +kernel
theorem dX6_matchOf_40 : decode cX6_matchOf 40 = .ok (.iconst 1, 1) := by decide +kernel
theorem dX6_matchOf_41 : decode cX6_matchOf 41 = .ok (.isub, 1) := by decide +kernel
theorem dX6_matchOf_42 : decode cX6_matchOf 42 = .ok (.istore_n 3, 1) := by decide +kernel
theorem dX6_matchOf_43 : decode cX6_matchOf 43 = .ok (.iconst 0, 1) := by decide +kernel
theorem dX6_matchOf_44 : decode cX6_matchOf 44 = .ok (.istore 4, 2) := by decide +kernel
theorem dX6_matchOf_46 : decode cX6_matchOf 46 = .ok (.iload 4, 2) := by decide +kernel
theorem dX6_matchOf_48 : decode cX6_matchOf 48 = .ok (.aload_n 0, 1) := by decide +kernel
theorem dX6_matchOf_49 : decode cX6_matchOf 49 = .ok (.getfield 7, 3) := by decide +kernel
theorem dX6_matchOf_52 : decode cX6_matchOf 52 = .ok (.iconst 1, 1) := by decide +kernel
theorem dX6_matchOf_53 : decode cX6_matchOf 53 = .ok (.iaload, 1) := by decide +kernel
theorem dX6_matchOf_54 : decode cX6_matchOf 54 = .ok (.if_icmp .ge 17, 3) := by decide +kernel
theorem dX6_matchOf_57 : decode cX6_matchOf 57 = .ok (.aload_n 0, 1) := by decide +kernel
theorem dX6_matchOf_58 : decode cX6_matchOf 58 = .ok (.getfield 31, 3) := by decide +kernel
theorem dX6_matchOf_61 : decode cX6_matchOf 61 = .ok (.iload 4, 2) := by decide +kernel
theorem dX6_matchOf_63 : decode cX6_matchOf 63 = .ok (.iconst (-1), 1) := by decide +kernel
theorem dX6_matchOf_64 : decode cX6_matchOf 64 = .ok (.iastore, 1) := by decide +kernel
theorem dX6_matchOf_65 : decode cX6_matchOf 65 = .ok (.iinc 4 1, 3) := by decide +kernel
theorem dX6_matchOf_68 : decode cX6_matchOf 68 = .ok (.goto (-22), 3) := by decide +kernel
theorem dX6_matchOf_71 : decode cX6_matchOf 71 = .ok (.iconst 0, 1) := by decide +kernel
theorem dX6_matchOf_72 : decode cX6_matchOf 72 = .ok (.istore 4, 2) := by decide +kernel
theorem dX6_matchOf_74 : decode cX6_matchOf 74 = .ok (.iload 4, 2) := by decide +kernel
theorem dX6_matchOf_76 : decode cX6_matchOf 76 = .ok (.aload_n 0, 1) := by decide +kernel
theorem dX6_matchOf_77 : decode cX6_matchOf 77 = .ok (.getfield 7, 3) := by decide +kernel
theorem dX6_matchOf_80 : decode cX6_matchOf 80 = .ok (.iconst 1, 1) := by decide +kernel
theorem dX6_matchOf_81 : decode cX6_matchOf 81 = .ok (.iaload, 1) := by decide +kernel
theorem dX6_matchOf_82 : decode cX6_matchOf 82 = .ok (.if_icmp .ge 144, 3) := by decide +kernel
theorem dX6_matchOf_85 : decode cX6_matchOf 85 = .ok (.iload_n 3, 1) := by decide +kernel
theorem dX6_matchOf_86 : decode cX6_matchOf 86 = .ok (.iload 4, 2) := by decide +kernel
theorem dX6_matchOf_88 : decode cX6_matchOf 88 = .ok (.ishr, 1) := by decide +kernel
theorem dX6_matchOf_89 : decode cX6_matchOf 89 = .ok (.iconst 1, 1) := by decide +kernel
theorem dX6_matchOf_90 : decode cX6_matchOf 90 = .ok (.iand, 1) := by decide +kernel
theorem dX6_matchOf_91 : decode cX6_matchOf 91 = .ok (.iconst 1, 1) := by decide +kernel
theorem dX6_matchOf_92 : decode cX6_matchOf 92 = .ok (.if_icmp .ne 7, 3) := by decide +kernel
theorem dX6_matchOf_95 : decode cX6_matchOf 95 = .ok (.iconst 1, 1) := by decide +kernel
theorem dX6_matchOf_96 : decode cX6_matchOf 96 = .ok (.goto 4, 3) := by decide +kernel
theorem dX6_matchOf_99 : decode cX6_matchOf 99 = .ok (.iconst 0, 1) := by decide +kernel
theorem dX6_matchOf_100 : decode cX6_matchOf 100 = .ok (.istore 5, 2) := by decide +kernel
theorem dX6_matchOf_102 : decode cX6_matchOf 102 = .ok (.iload 4, 2) := by decide +kernel
theorem dX6_matchOf_104 : decode cX6_matchOf 104 = .ok (.iconst 1, 1) := by decide +kernel
theorem dX6_matchOf_105 : decode cX6_matchOf 105 = .ok (.iadd, 1) := by decide +kernel
theorem dX6_matchOf_106 : decode cX6_matchOf 106 = .ok (.istore 6, 2) := by decide +kernel
theorem dX6_matchOf_108 : decode cX6_matchOf 108 = .ok (.iload 6, 2) := by decide +kernel
theorem dX6_matchOf_110 : decode cX6_matchOf 110 = .ok (.aload_n 0, 1) := by decide +kernel
theorem dX6_matchOf_111 : decode cX6_matchOf 111 = .ok (.getfield 7, 3) := by decide +kernel
theorem dX6_matchOf_114 : decode cX6_matchOf 114 = .ok (.iconst 1, 1) := by decide +kernel
theorem dX6_matchOf_115 : decode cX6_matchOf 115 = .ok (.iaload, 1) := by decide +kernel
theorem dX6_matchOf_116 : decode cX6_matchOf 116 = .ok (.if_icmp .ge 95, 3) := by decide +kernel
theorem dX6_matchOf_119 : decode cX6_matchOf 119 = .ok (.iload 5, 2) := by decide +kernel
theorem dX6_matchOf_121 : decode cX6_matchOf 121 = .ok (.ifCond .eq 90, 3) := by decide +kernel
theorem dX6_matchOf_124 : decode cX6_matchOf 124 = .ok (.iload_n 3, 1) := by decide +kernel
theorem dX6_matchOf_125 : decode cX6_matchOf 125 = .ok (.iconst 1, 1) := by decide +kernel
theorem dX6_matchOf_126 : decode cX6_matchOf 126 = .ok (.iload 4, 2) := by decide +kernel
theorem dX6_matchOf_128 : decode cX6_matchOf 128 = .ok (.ishl, 1) := by decide +kernel
theorem dX6_matchOf_129 : decode cX6_matchOf 129 = .ok (.iconst (-1), 1) := by decide +kernel
theorem dX6_matchOf_130 : decode cX6_matchOf 130 = .ok (.ixor, 1) := by decide +kernel
theorem dX6_matchOf_131 : decode cX6_matchOf 131 = .ok (.iand, 1) := by decide +kernel
theorem dX6_matchOf_132 : decode cX6_matchOf 132 = .ok (.iconst 1, 1) := by decide +kernel
theorem dX6_matchOf_133 : decode cX6_matchOf 133 = .ok (.iload 6, 2) := by decide +kernel
theorem dX6_matchOf_135 : decode cX6_matchOf 135 = .ok (.ishl, 1) := by decide +kernel
theorem dX6_matchOf_136 : decode cX6_matchOf 136 = .ok (.iconst (-1), 1) := by decide +kernel
theorem dX6_matchOf_137 : decode cX6_matchOf 137 = .ok (.ixor, 1) := by decide +kernel
theorem dX6_matchOf_138 : decode cX6_matchOf 138 = .ok (.iand, 1) := by decide +kernel
theorem dX6_matchOf_139 : decode cX6_matchOf 139 = .ok (.istore 7, 2) := by decide +kernel
theorem dX6_matchOf_141 : decode cX6_matchOf 141 = .ok (.iload_n 3, 1) := by decide +kernel
theorem dX6_matchOf_142 : decode cX6_matchOf 142 = .ok (.iload 6, 2) := by decide +kernel
theorem dX6_matchOf_144 : decode cX6_matchOf 144 = .ok (.ishr, 1) := by decide +kernel
theorem dX6_matchOf_145 : decode cX6_matchOf 145 = .ok (.iconst 1, 1) := by decide +kernel
theorem dX6_matchOf_146 : decode cX6_matchOf 146 = .ok (.iand, 1) := by decide +kernel
theorem dX6_matchOf_147 : decode cX6_matchOf 147 = .ok (.iconst 1, 1) := by decide +kernel
theorem dX6_matchOf_148 : decode cX6_matchOf 148 = .ok (.if_icmp .ne 57, 3) := by decide +kernel
theorem dX6_matchOf_151 : decode cX6_matchOf 151 = .ok (.aload_n 0, 1) := by decide +kernel
theorem dX6_matchOf_152 : decode cX6_matchOf 152 = .ok (.getfield 25, 3) := by decide +kernel
theorem dX6_matchOf_155 : decode cX6_matchOf 155 = .ok (.bipush 8, 2) := by decide +kernel
theorem dX6_matchOf_157 : decode cX6_matchOf 157 = .ok (.iload 4, 2) := by decide +kernel
theorem dX6_matchOf_159 : decode cX6_matchOf 159 = .ok (.imul, 1) := by decide +kernel
theorem dX6_matchOf_160 : decode cX6_matchOf 160 = .ok (.iload 6, 2) := by decide +kernel
theorem dX6_matchOf_162 : decode cX6_matchOf 162 = .ok (.iadd, 1) := by decide +kernel
theorem dX6_matchOf_163 : decode cX6_matchOf 163 = .ok (.iaload, 1) := by decide +kernel
theorem dX6_matchOf_164 : decode cX6_matchOf 164 = .ok (.aload_n 0, 1) := by decide +kernel
theorem dX6_matchOf_165 : decode cX6_matchOf 165 = .ok (.getfield 28, 3) := by decide +kernel
theorem dX6_matchOf_168 : decode cX6_matchOf 168 = .ok (.iload 7, 2) := by decide +kernel
theorem dX6_matchOf_170 : decode cX6_matchOf 170 = .ok (.iaload, 1) := by decide +kernel
theorem dX6_matchOf_171 : decode cX6_matchOf 171 = .ok (.iadd, 1) := by decide +kernel
theorem dX6_matchOf_172 : decode cX6_matchOf 172 = .ok (.aload_n 0, 1) := by decide +kernel
theorem dX6_matchOf_173 : decode cX6_matchOf 173 = .ok (.getfield 28, 3) := by decide +kernel
theorem dX6_matchOf_176 : decode cX6_matchOf 176 = .ok (.iload_n 3, 1) := by decide +kernel
theorem dX6_matchOf_177 : decode cX6_matchOf 177 = .ok (.iaload, 1) := by decide +kernel
theorem dX6_matchOf_178 : decode cX6_matchOf 178 = .ok (.if_icmp .ne 27, 3) := by decide +kernel
theorem dX6_matchOf_181 : decode cX6_matchOf 181 = .ok (.aload_n 0, 1) := by decide +kernel
theorem dX6_matchOf_182 : decode cX6_matchOf 182 = .ok (.getfield 31, 3) := by decide +kernel
theorem dX6_matchOf_185 : decode cX6_matchOf 185 = .ok (.iload 4, 2) := by decide +kernel
theorem dX6_matchOf_187 : decode cX6_matchOf 187 = .ok (.iload 6, 2) := by decide +kernel
theorem dX6_matchOf_189 : decode cX6_matchOf 189 = .ok (.iastore, 1) := by decide +kernel
theorem dX6_matchOf_190 : decode cX6_matchOf 190 = .ok (.aload_n 0, 1) := by decide +kernel
theorem dX6_matchOf_191 : decode cX6_matchOf 191 = .ok (.getfield 31, 3) := by decide +kernel
theorem dX6_matchOf_194 : decode cX6_matchOf 194 = .ok (.iload 6, 2) := by decide +kernel
theorem dX6_matchOf_196 : decode cX6_matchOf 196 = .ok (.iload 4, 2) := by decide +kernel
theorem dX6_matchOf_198 : decode cX6_matchOf 198 = .ok (.iastore, 1) := by decide +kernel
theorem dX6_matchOf_199 : decode cX6_matchOf 199 = .ok (.iload 7, 2) := by decide +kernel
theorem dX6_matchOf_201 : decode cX6_matchOf 201 = .ok (.istore_n 3, 1) := by decide +kernel
theorem dX6_matchOf_202 : decode cX6_matchOf 202 = .ok (.iconst 0, 1) := by decide +kernel
theorem dX6_matchOf_203 : decode cX6_matchOf 203 = .ok (.istore 5, 2) := by decide +kernel
theorem dX6_matchOf_205 : decode cX6_matchOf 205 = .ok (.iinc 6 1, 3) := by decide +kernel
theorem dX6_matchOf_208 : decode cX6_matchOf 208 = .ok (.goto (-100), 3) := by decide +kernel
theorem dX6_matchOf_211 : decode cX6_matchOf 211 = .ok (.iload_n 3, 1) := by decide +kernel
theorem dX6_matchOf_212 : decode cX6_matchOf 212 = .ok (.iconst 1, 1) := by decide +kernel
theorem dX6_matchOf_213 : decode cX6_matchOf 213 = .ok (.iload 4, 2) := by decide +kernel
theorem dX6_matchOf_215 : decode cX6_matchOf 215 = .ok (.ishl, 1) := by decide +kernel
theorem dX6_matchOf_216 : decode cX6_matchOf 216 = .ok (.iconst (-1), 1) := by decide +kernel
theorem dX6_matchOf_217 : decode cX6_matchOf 217 = .ok (.ixor, 1) := by decide +kernel
theorem dX6_matchOf_218 : decode cX6_matchOf 218 = .ok (.iand, 1) := by decide +kernel
theorem dX6_matchOf_219 : decode cX6_matchOf 219 = .ok (.istore_n 3, 1) := by decide +kernel
theorem dX6_matchOf_220 : decode cX6_matchOf 220 = .ok (.iinc 4 1, 3) := by decide +kernel
theorem dX6_matchOf_223 : decode cX6_matchOf 223 = .ok (.goto (-149), 3) := by decide +kernel
theorem dX6_matchOf_226 : decode cX6_matchOf 226 = .ok (.aload_n 0, 1) := by decide +kernel
theorem dX6_matchOf_227 : decode cX6_matchOf 227 = .ok (.getfield 31, 3) := by decide +kernel
theorem dX6_matchOf_230 : decode cX6_matchOf 230 = .ok (.iload_n 1, 1) := by decide +kernel
theorem dX6_matchOf_231 : decode cX6_matchOf 231 = .ok (.iaload, 1) := by decide +kernel
theorem dX6_matchOf_232 : decode cX6_matchOf 232 = .ok (.ireturn, 1) := by decide +kernel
theorem dX6_kindFor_0 : decode cX6_kindFor 0 = .ok (.aload_n 0, 1) := by decide +kernel
theorem dX6_kindFor_1 : decode cX6_kindFor 1 = .ok (.iload_n 1, 1) := by decide +kernel
theorem dX6_kindFor_2 : decode cX6_kindFor 2 = .ok (.iload_n 2, 1) := by decide +kernel
theorem dX6_kindFor_3 : decode cX6_kindFor 3 = .ok (.invokevirtual 115, 3) := by decide +kernel
theorem dX6_kindFor_6 : decode cX6_kindFor 6 = .ok (.ifCond .eq 28, 3) := by decide +kernel
theorem dX6_kindFor_9 : decode cX6_kindFor 9 = .ok (.iload_n 3, 1) := by decide +kernel
theorem dX6_kindFor_10 : decode cX6_kindFor 10 = .ok (.invokestatic 173, 3) := by decide +kernel
theorem dX6_kindFor_13 : decode cX6_kindFor 13 = .ok (.ifCond .eq 21, 3) := by decide +kernel
theorem dX6_kindFor_16 : decode cX6_kindFor 16 = .ok (.aload_n 0, 1) := by decide +kernel
theorem dX6_kindFor_17 : decode cX6_kindFor 17 = .ok (.iload_n 1, 1) := by decide +kernel
theorem dX6_kindFor_18 : decode cX6_kindFor 18 = .ok (.iconst 0, 1) := by decide +kernel
theorem dX6_kindFor_19 : decode cX6_kindFor 19 = .ok (.invokestatic 66, 3) := by decide +kernel
theorem dX6_kindFor_22 : decode cX6_kindFor 22 = .ok (.iconst 0, 1) := by decide +kernel
theorem dX6_kindFor_23 : decode cX6_kindFor 23 = .ok (.bipush 6, 2) := by decide +kernel
theorem dX6_kindFor_25 : decode cX6_kindFor 25 = .ok (.iload_n 1, 1) := by decide +kernel
theorem dX6_kindFor_26 : decode cX6_kindFor 26 = .ok (.iload_n 2, 1) := by decide +kernel
theorem dX6_kindFor_27 : decode cX6_kindFor 27 = .ok (.iload_n 3, 1) := by decide +kernel
theorem dX6_kindFor_28 : decode cX6_kindFor 28 = .ok (.invokevirtual 179, 3) := by decide +kernel
theorem dX6_kindFor_31 : decode cX6_kindFor 31 = .ok (.goto 9, 3) := by decide +kernel
theorem dX6_kindFor_34 : decode cX6_kindFor 34 = .ok (.aload_n 0, 1) := by decide +kernel
theorem dX6_kindFor_35 : decode cX6_kindFor 35 = .ok (.ldc 49, 2) := by decide +kernel
theorem dX6_kindFor_37 : decode cX6_kindFor 37 = .ok (.invokevirtual 73, 3) := by decide +kernel
theorem dX6_kindFor_40 : decode cX6_kindFor 40 = .ok (.ireturn, 1) := by decide +kernel
theorem dX6_viewFor_0 : decode cX6_viewFor 0 = .ok (.aload_n 0, 1) := by decide +kernel
theorem dX6_viewFor_1 : decode cX6_viewFor 1 = .ok (.iload_n 1, 1) := by decide +kernel
theorem dX6_viewFor_2 : decode cX6_viewFor 2 = .ok (.iload_n 2, 1) := by decide +kernel
theorem dX6_viewFor_3 : decode cX6_viewFor 3 = .ok (.invokevirtual 115, 3) := by decide +kernel
theorem dX6_viewFor_6 : decode cX6_viewFor 6 = .ok (.ifCond .eq 40, 3) := by decide +kernel
theorem dX6_viewFor_9 : decode cX6_viewFor 9 = .ok (.iload_n 3, 1) := by decide +kernel
theorem dX6_viewFor_10 : decode cX6_viewFor 10 = .ok (.invokestatic 104, 3) := by decide +kernel
theorem dX6_viewFor_13 : decode cX6_viewFor 13 = .ok (.ifCond .eq 33, 3) := by decide +kernel
theorem dX6_viewFor_16 : decode cX6_viewFor 16 = .ok (.iload 4, 2) := by decide +kernel
theorem dX6_viewFor_18 : decode cX6_viewFor 18 = .ok (.invokestatic 173, 3) := by decide +kernel
theorem dX6_viewFor_21 : decode cX6_viewFor 21 = .ok (.ifCond .eq 25, 3) := by decide +kernel
theorem dX6_viewFor_24 : decode cX6_viewFor 24 = .ok (.aload_n 0, 1) := by decide +kernel
theorem dX6_viewFor_25 : decode cX6_viewFor 25 = .ok (.iload_n 1, 1) := by decide +kernel
theorem dX6_viewFor_26 : decode cX6_viewFor 26 = .ok (.iconst 2, 1) := by decide +kernel
theorem dX6_viewFor_27 : decode cX6_viewFor 27 = .ok (.iload_n 3, 1) := by decide +kernel
theorem dX6_viewFor_28 : decode cX6_viewFor 28 = .ok (.iadd, 1) := by decide +kernel
theorem dX6_viewFor_29 : decode cX6_viewFor 29 = .ok (.invokestatic 66, 3) := by decide +kernel
theorem dX6_viewFor_32 : decode cX6_viewFor 32 = .ok (.bipush (-9), 2) := by decide +kernel
theorem dX6_viewFor_34 : decode cX6_viewFor 34 = .ok (.bipush 9, 2) := by decide +kernel
theorem dX6_viewFor_36 : decode cX6_viewFor 36 = .ok (.iload_n 1, 1) := by decide +kernel
theorem dX6_viewFor_37 : decode cX6_viewFor 37 = .ok (.iload_n 2, 1) := by decide +kernel
theorem dX6_viewFor_38 : decode cX6_viewFor 38 = .ok (.iload 4, 2) := by decide +kernel
theorem dX6_viewFor_40 : decode cX6_viewFor 40 = .ok (.invokevirtual 179, 3) := by decide +kernel
theorem dX6_viewFor_43 : decode cX6_viewFor 43 = .ok (.goto 9, 3) := by decide +kernel
theorem dX6_viewFor_46 : decode cX6_viewFor 46 = .ok (.aload_n 0, 1) := by decide +kernel
theorem dX6_viewFor_47 : decode cX6_viewFor 47 = .ok (.ldc 49, 2) := by decide +kernel
theorem dX6_viewFor_49 : decode cX6_viewFor 49 = .ok (.invokevirtual 73, 3) := by decide +kernel
theorem dX6_viewFor_52 : decode cX6_viewFor 52 = .ok (.ireturn, 1) := by decide +kernel
theorem dX6_voiceFor_0 : decode cX6_voiceFor 0 = .ok (.aload_n 0, 1) := by decide +kernel
theorem dX6_voiceFor_1 : decode cX6_voiceFor 1 = .ok (.iload_n 1, 1) := by decide +kernel
theorem dX6_voiceFor_2 : decode cX6_voiceFor 2 = .ok (.iload_n 2, 1) := by decide +kernel
theorem dX6_voiceFor_3 : decode cX6_voiceFor 3 = .ok (.invokevirtual 115, 3) := by decide +kernel
theorem dX6_voiceFor_6 : decode cX6_voiceFor 6 = .ok (.ifCond .eq 23, 3) := by decide +kernel
theorem dX6_voiceFor_9 : decode cX6_voiceFor 9 = .ok (.iload_n 3, 1) := by decide +kernel
theorem dX6_voiceFor_10 : decode cX6_voiceFor 10 = .ok (.i2l, 1) := by decide +kernel
theorem dX6_voiceFor_11 : decode cX6_voiceFor 11 = .ok (.lconst 0, 1) := by decide +kernel
theorem dX6_voiceFor_12 : decode cX6_voiceFor 12 = .ok (.ldc2_w 188, 3) := by decide +kernel
theorem dX6_voiceFor_15 : decode cX6_voiceFor 15 = .ok (.invokestatic 52, 3) := by decide +kernel
theorem dX6_voiceFor_18 : decode cX6_voiceFor 18 = .ok (.ifCond .eq 11, 3) := by decide +kernel
theorem dX6_voiceFor_21 : decode cX6_voiceFor 21 = .ok (.iload 4, 2) := by decide +kernel
theorem dX6_voiceFor_23 : decode cX6_voiceFor 23 = .ok (.invokestatic 173, 3) := by decide +kernel
theorem dX6_voiceFor_26 : decode cX6_voiceFor 26 = .ok (.ifCond .ne 10, 3) := by decide +kernel
theorem dX6_voiceFor_29 : decode cX6_voiceFor 29 = .ok (.aload_n 0, 1) := by decide +kernel
theorem dX6_voiceFor_30 : decode cX6_voiceFor 30 = .ok (.ldc 49, 2) := by decide +kernel
theorem dX6_voiceFor_32 : decode cX6_voiceFor 32 = .ok (.invokevirtual 73, 3) := by decide +kernel
theorem dX6_voiceFor_35 : decode cX6_voiceFor 35 = .ok (.ireturn, 1) := by decide +kernel
theorem dX6_voiceFor_36 : decode cX6_voiceFor 36 = .ok (.aload_n 0, 1) := by decide +kernel
theorem dX6_voiceFor_37 : decode cX6_voiceFor 37 = .ok (.iload_n 1, 1) := by decide +kernel
theorem dX6_voiceFor_38 : decode cX6_voiceFor 38 = .ok (.iconst 1, 1) := by decide +kernel
theorem dX6_voiceFor_39 : decode cX6_voiceFor 39 = .ok (.invokevirtual 83, 3) := by decide +kernel
theorem dX6_voiceFor_42 : decode cX6_voiceFor 42 = .ok (.istore 5, 2) := by decide +kernel
theorem dX6_voiceFor_44 : decode cX6_voiceFor 44 = .ok (.iconst (-1), 1) := by decide +kernel
theorem dX6_voiceFor_45 : decode cX6_voiceFor 45 = .ok (.istore 6, 2) := by decide +kernel
theorem dX6_voiceFor_47 : decode cX6_voiceFor 47 = .ok (.iconst 0, 1) := by decide +kernel
theorem dX6_voiceFor_48 : decode cX6_voiceFor 48 = .ok (.istore 7, 2) := by decide +kernel
theorem dX6_voiceFor_50 : decode cX6_voiceFor 50 = .ok (.iload 7, 2) := by decide +kernel
theorem dX6_voiceFor_52 : decode cX6_voiceFor 52 = .ok (.bipush 9, 2) := by decide +kernel
theorem dX6_voiceFor_54 : decode cX6_voiceFor 54 = .ok (.if_icmp .gt 46, 3) := by decide +kernel
theorem dX6_voiceFor_57 : decode cX6_voiceFor 57 = .ok (.iload 6, 2) := by decide +kernel
theorem dX6_voiceFor_59 : decode cX6_voiceFor 59 = .ok (.ifCond .ge 41, 3) := by decide +kernel
theorem dX6_voiceFor_62 : decode cX6_voiceFor 62 = .ok (.aload_n 0, 1) := by decide +kernel
theorem dX6_voiceFor_63 : decode cX6_voiceFor 63 = .ok (.getfield 7, 3) := by decide +kernel
theorem dX6_voiceFor_66 : decode cX6_voiceFor 66 = .ok (.iload_n 1, 1) := by decide +kernel
theorem dX6_voiceFor_67 : decode cX6_voiceFor 67 = .ok (.iconst 1, 1) := by decide +kernel
theorem dX6_voiceFor_68 : decode cX6_voiceFor 68 = .ok (.invokestatic 66, 3) := by decide +kernel
theorem dX6_voiceFor_71 : decode cX6_voiceFor 71 = .ok (.iload 7, 2) := by decide +kernel
theorem dX6_voiceFor_73 : decode cX6_voiceFor 73 = .ok (.iastore, 1) := by decide +kernel
theorem dX6_voiceFor_74 : decode cX6_voiceFor 74 = .ok (.aload_n 0, 1) := by decide +kernel
theorem dX6_voiceFor_75 : decode cX6_voiceFor 75 = .ok (.iload_n 1, 1) := by decide +kernel
theorem dX6_voiceFor_76 : decode cX6_voiceFor 76 = .ok (.iload_n 2, 1) := by decide +kernel
theorem dX6_voiceFor_77 : decode cX6_voiceFor 77 = .ok (.iload 4, 2) := by decide +kernel
theorem dX6_voiceFor_79 : decode cX6_voiceFor 79 = .ok (.invokevirtual 176, 3) := by decide +kernel
theorem dX6_voiceFor_82 : decode cX6_voiceFor 82 = .ok (.iload_n 3, 1) := by decide +kernel
theorem dX6_voiceFor_83 : decode cX6_voiceFor 83 = .ok (.if_icmp .lt 8, 3) := by decide +kernel
theorem dX6_voiceFor_86 : decode cX6_voiceFor 86 = .ok (.iload 7, 2) := by decide +kernel
theorem dX6_voiceFor_88 : decode cX6_voiceFor 88 = .ok (.goto 4, 3) := by decide +kernel
theorem dX6_voiceFor_91 : decode cX6_voiceFor 91 = .ok (.iconst (-1), 1) := by decide +kernel
theorem dX6_voiceFor_92 : decode cX6_voiceFor 92 = .ok (.istore 6, 2) := by decide +kernel
theorem dX6_voiceFor_94 : decode cX6_voiceFor 94 = .ok (.iinc 7 1, 3) := by decide +kernel
theorem dX6_voiceFor_97 : decode cX6_voiceFor 97 = .ok (.goto (-47), 3) := by decide +kernel
theorem dX6_voiceFor_100 : decode cX6_voiceFor 100 = .ok (.aload_n 0, 1) := by decide +kernel
theorem dX6_voiceFor_101 : decode cX6_voiceFor 101 = .ok (.getfield 7, 3) := by decide +kernel
theorem dX6_voiceFor_104 : decode cX6_voiceFor 104 = .ok (.iload_n 1, 1) := by decide +kernel
theorem dX6_voiceFor_105 : decode cX6_voiceFor 105 = .ok (.iconst 1, 1) := by decide +kernel
theorem dX6_voiceFor_106 : decode cX6_voiceFor 106 = .ok (.invokestatic 66, 3) := by decide +kernel
theorem dX6_voiceFor_109 : decode cX6_voiceFor 109 = .ok (.iload 5, 2) := by decide +kernel
theorem dX6_voiceFor_111 : decode cX6_voiceFor 111 = .ok (.iastore, 1) := by decide +kernel
theorem dX6_voiceFor_112 : decode cX6_voiceFor 112 = .ok (.iload 6, 2) := by decide +kernel
theorem dX6_voiceFor_114 : decode cX6_voiceFor 114 = .ok (.ifCond .ge 12, 3) := by decide +kernel
theorem dX6_voiceFor_117 : decode cX6_voiceFor 117 = .ok (.aload_n 0, 1) := by decide +kernel
theorem dX6_voiceFor_118 : decode cX6_voiceFor 118 = .ok (.ldc 162, 2) := by decide +kernel
theorem dX6_voiceFor_120 : decode cX6_voiceFor 120 = .ok (.invokevirtual 73, 3) := by decide +kernel
theorem dX6_voiceFor_123 : decode cX6_voiceFor 123 = .ok (.goto 5, 3) := by decide +kernel
theorem dX6_voiceFor_126 : decode cX6_voiceFor 126 = .ok (.iload 6, 2) := by decide +kernel
theorem dX6_voiceFor_128 : decode cX6_voiceFor 128 = .ok (.ireturn, 1) := by decide +kernel
theorem dX6_isTold_0 : decode cX6_isTold 0 = .ok (.iconst 1, 1) := by decide +kernel
theorem dX6_isTold_1 : decode cX6_isTold 1 = .ok (.istore_n 2, 1) := by decide +kernel
theorem dX6_isTold_2 : decode cX6_isTold 2 = .ok (.aload_n 0, 1) := by decide +kernel
theorem dX6_isTold_3 : decode cX6_isTold 3 = .ok (.invokevirtual 151, 3) := by decide +kernel
theorem dX6_isTold_6 : decode cX6_isTold 6 = .ok (.iconst 0, 1) := by decide +kernel
theorem dX6_isTold_7 : decode cX6_isTold 7 = .ok (.istore_n 3, 1) := by decide +kernel
theorem dX6_isTold_8 : decode cX6_isTold 8 = .ok (.iload_n 3, 1) := by decide +kernel
theorem dX6_isTold_9 : decode cX6_isTold 9 = .ok (.aload_n 0, 1) := by decide +kernel
theorem dX6_isTold_10 : decode cX6_isTold 10 = .ok (.getfield 40, 3) := by decide +kernel
theorem dX6_isTold_13 : decode cX6_isTold 13 = .ok (.iload_n 1, 1) := by decide +kernel
theorem dX6_isTold_14 : decode cX6_isTold 14 = .ok (.iaload, 1) := by decide +kernel
theorem dX6_isTold_15 : decode cX6_isTold 15 = .ok (.if_icmp .ge 53, 3) := by decide +kernel
theorem dX6_isTold_18 : decode cX6_isTold 18 = .ok (.iload_n 2, 1) := by decide +kernel
theorem dX6_isTold_19 : decode cX6_isTold 19 = .ok (.ifCond .eq 49, 3) := by decide +kernel
theorem dX6_isTold_22 : decode cX6_isTold 22 = .ok (.aload_n 0, 1) := by decide +kernel
theorem dX6_isTold_23 : decode cX6_isTold 23 = .ok (.getfield 43, 3) := by decide +kernel
theorem dX6_isTold_26 : decode cX6_isTold 26 = .ok (.bipush 40, 2) := by decide +kernel
theorem dX6_isTold_28 : decode cX6_isTold 28 = .ok (.iload_n 1, 1) := by decide +kernel
theorem dX6_isTold_29 : decode cX6_isTold 29 = .ok (.imul, 1) := by decide +kernel
theorem dX6_isTold_30 : decode cX6_isTold 30 = .ok (.iload_n 3, 1) := by decide +kernel
theorem dX6_isTold_31 : decode cX6_isTold 31 = .ok (.iadd, 1) := by decide +kernel
theorem dX6_isTold_32 : decode cX6_isTold 32 = .ok (.iaload, 1) := by decide +kernel
theorem dX6_isTold_33 : decode cX6_isTold 33 = .ok (.istore 4, 2) := by decide +kernel
theorem dX6_isTold_35 : decode cX6_isTold 35 = .ok (.iload 4, 2) := by decide +kernel
theorem dX6_isTold_37 : decode cX6_isTold 37 = .ok (.iconst (-1), 1) := by decide +kernel
theorem dX6_isTold_38 : decode cX6_isTold 38 = .ok (.if_icmp .eq 14, 3) := by decide +kernel
theorem dX6_isTold_41 : decode cX6_isTold 41 = .ok (.iload 4, 2) := by decide +kernel
theorem dX6_isTold_43 : decode cX6_isTold 43 = .ok (.aload_n 0, 1) := by decide +kernel
theorem dX6_isTold_44 : decode cX6_isTold 44 = .ok (.getfield 7, 3) := by decide +kernel
theorem dX6_isTold_47 : decode cX6_isTold 47 = .ok (.iconst 2, 1) := by decide +kernel
theorem dX6_isTold_48 : decode cX6_isTold 48 = .ok (.iaload, 1) := by decide +kernel
theorem dX6_isTold_49 : decode cX6_isTold 49 = .ok (.if_icmp .ne 7, 3) := by decide +kernel
theorem dX6_isTold_52 : decode cX6_isTold 52 = .ok (.iconst 1, 1) := by decide +kernel
theorem dX6_isTold_53 : decode cX6_isTold 53 = .ok (.goto 4, 3) := by decide +kernel
theorem dX6_isTold_56 : decode cX6_isTold 56 = .ok (.iconst 0, 1) := by decide +kernel
theorem dX6_isTold_57 : decode cX6_isTold 57 = .ok (.istore_n 2, 1) := by decide +kernel
theorem dX6_isTold_58 : decode cX6_isTold 58 = .ok (.aload_n 0, 1) := by decide +kernel
theorem dX6_isTold_59 : decode cX6_isTold 59 = .ok (.invokevirtual 138, 3) := by decide +kernel
theorem dX6_isTold_62 : decode cX6_isTold 62 = .ok (.iinc 3 1, 3) := by decide +kernel
theorem dX6_isTold_65 : decode cX6_isTold 65 = .ok (.goto (-57), 3) := by decide +kernel
theorem dX6_isTold_68 : decode cX6_isTold 68 = .ok (.aload_n 0, 1) := by decide +kernel
theorem dX6_isTold_69 : decode cX6_isTold 69 = .ok (.iload_n 2, 1) := by decide +kernel
theorem dX6_isTold_70 : decode cX6_isTold 70 = .ok (.ifCond .eq 7, 3) := by decide +kernel
theorem dX6_isTold_73 : decode cX6_isTold 73 = .ok (.iconst 1, 1) := by decide +kernel
theorem dX6_isTold_74 : decode cX6_isTold 74 = .ok (.goto 4, 3) := by decide +kernel
theorem dX6_isTold_77 : decode cX6_isTold 77 = .ok (.iconst 0, 1) := by decide +kernel
theorem dX6_isTold_78 : decode cX6_isTold 78 = .ok (.invokevirtual 154, 3) := by decide +kernel
theorem dX6_isTold_81 : decode cX6_isTold 81 = .ok (.iconst 1, 1) := by decide +kernel
theorem dX6_isTold_82 : decode cX6_isTold 82 = .ok (.if_icmp .ne 7, 3) := by decide +kernel
theorem dX6_isTold_85 : decode cX6_isTold 85 = .ok (.iconst 1, 1) := by decide +kernel
theorem dX6_isTold_86 : decode cX6_isTold 86 = .ok (.goto 4, 3) := by decide +kernel
theorem dX6_isTold_89 : decode cX6_isTold 89 = .ok (.iconst 0, 1) := by decide +kernel
theorem dX6_isTold_90 : decode cX6_isTold 90 = .ok (.ireturn, 1) := by decide +kernel
theorem dX6_wrongOne_0 : decode cX6_wrongOne 0 = .ok (.aload_n 0, 1) := by decide +kernel
theorem dX6_wrongOne_1 : decode cX6_wrongOne 1 = .ok (.iload_n 1, 1) := by decide +kernel
theorem dX6_wrongOne_2 : decode cX6_wrongOne 2 = .ok (.invokevirtual 190, 3) := by decide +kernel
theorem dX6_wrongOne_5 : decode cX6_wrongOne 5 = .ok (.istore_n 3, 1) := by decide +kernel
theorem dX6_wrongOne_6 : decode cX6_wrongOne 6 = .ok (.iload_n 3, 1) := by decide +kernel
theorem dX6_wrongOne_7 : decode cX6_wrongOne 7 = .ok (.ifCond .eq 7, 3) := by decide +kernel
theorem dX6_wrongOne_10 : decode cX6_wrongOne 10 = .ok (.iload_n 3, 1) := by decide +kernel
theorem dX6_wrongOne_11 : decode cX6_wrongOne 11 = .ok (.goto 17, 3) := by decide +kernel
theorem dX6_wrongOne_14 : decode cX6_wrongOne 14 = .ok (.aload_n 0, 1) := by decide +kernel
theorem dX6_wrongOne_15 : decode cX6_wrongOne 15 = .ok (.iload_n 2, 1) := by decide +kernel
theorem dX6_wrongOne_16 : decode cX6_wrongOne 16 = .ok (.invokevirtual 56, 3) := by decide +kernel
theorem dX6_wrongOne_19 : decode cX6_wrongOne 19 = .ok (.ifCond .eq 7, 3) := by decide +kernel
theorem dX6_wrongOne_22 : decode cX6_wrongOne 22 = .ok (.iconst 0, 1) := by decide +kernel
theorem dX6_wrongOne_23 : decode cX6_wrongOne 23 = .ok (.goto 5, 3) := by decide +kernel
theorem dX6_wrongOne_26 : decode cX6_wrongOne 26 = .ok (.ldc 49, 2) := by decide +kernel
theorem dX6_wrongOne_28 : decode cX6_wrongOne 28 = .ok (.ireturn, 1) := by decide +kernel
theorem dX6_findFits_0 : decode cX6_findFits 0 = .ok (.iload_n 2, 1) := by decide +kernel
theorem dX6_findFits_1 : decode cX6_findFits 1 = .ok (.iconst 2, 1) := by decide +kernel
theorem dX6_findFits_2 : decode cX6_findFits 2 = .ok (.aload_n 0, 1) := by decide +kernel
theorem dX6_findFits_3 : decode cX6_findFits 3 = .ok (.getfield 7, 3) := by decide +kernel
theorem dX6_findFits_6 : decode cX6_findFits 6 = .ok (.iconst 3, 1) := by decide +kernel
theorem dX6_findFits_7 : decode cX6_findFits 7 = .ok (.iaload, 1) := by decide +kernel
theorem dX6_findFits_8 : decode cX6_findFits 8 = .ok (.iadd, 1) := by decide +kernel
theorem dX6_findFits_9 : decode cX6_findFits 9 = .ok (.invokestatic 66, 3) := by decide +kernel
theorem dX6_findFits_12 : decode cX6_findFits 12 = .ok (.istore_n 3, 1) := by decide +kernel
theorem dX6_findFits_13 : decode cX6_findFits 13 = .ok (.aload_n 0, 1) := by decide +kernel
theorem dX6_findFits_14 : decode cX6_findFits 14 = .ok (.getfield 7, 3) := by decide +kernel
theorem dX6_findFits_17 : decode cX6_findFits 17 = .ok (.iload_n 3, 1) := by decide +kernel
theorem dX6_findFits_18 : decode cX6_findFits 18 = .ok (.iaload, 1) := by decide +kernel
theorem dX6_findFits_19 : decode cX6_findFits 19 = .ok (.istore 4, 2) := by decide +kernel
theorem dX6_findFits_21 : decode cX6_findFits 21 = .ok (.aload_n 0, 1) := by decide +kernel
theorem dX6_findFits_22 : decode cX6_findFits 22 = .ok (.iconst 0, 1) := by decide +kernel
theorem dX6_findFits_23 : decode cX6_findFits 23 = .ok (.putfield 193, 3) := by decide +kernel
theorem dX6_findFits_26 : decode cX6_findFits 26 = .ok (.aload_n 0, 1) := by decide +kernel
theorem dX6_findFits_27 : decode cX6_findFits 27 = .ok (.iconst 0, 1) := by decide +kernel
theorem dX6_findFits_28 : decode cX6_findFits 28 = .ok (.putfield 196, 3) := by decide +kernel
theorem dX6_findFits_31 : decode cX6_findFits 31 = .ok (.bipush (-9), 2) := by decide +kernel
theorem dX6_findFits_33 : decode cX6_findFits 33 = .ok (.istore 5, 2) := by decide +kernel
theorem dX6_findFits_35 : decode cX6_findFits 35 = .ok (.iload 5, 2) := by decide +kernel
theorem dX6_findFits_37 : decode cX6_findFits 37 = .ok (.bipush 9, 2) := by decide +kernel
theorem dX6_findFits_39 : decode cX6_findFits 39 = .ok (.if_icmp .gt 55, 3) := by decide +kernel
theorem dX6_findFits_42 : decode cX6_findFits 42 = .ok (.aload_n 0, 1) := by decide +kernel
theorem dX6_findFits_43 : decode cX6_findFits 43 = .ok (.getfield 7, 3) := by decide +kernel
theorem dX6_findFits_46 : decode cX6_findFits 46 = .ok (.iload_n 3, 1) := by decide +kernel
theorem dX6_findFits_47 : decode cX6_findFits 47 = .ok (.iload 5, 2) := by decide +kernel
theorem dX6_findFits_49 : decode cX6_findFits 49 = .ok (.iastore, 1) := by decide +kernel
theorem dX6_findFits_50 : decode cX6_findFits 50 = .ok (.aload_n 0, 1) := by decide +kernel
theorem dX6_findFits_51 : decode cX6_findFits 51 = .ok (.iload_n 1, 1) := by decide +kernel
theorem dX6_findFits_52 : decode cX6_findFits 52 = .ok (.invokevirtual 199, 3) := by decide +kernel
theorem dX6_findFits_55 : decode cX6_findFits 55 = .ok (.ifCond .eq 33, 3) := by decide +kernel
theorem dX6_findFits_58 : decode cX6_findFits 58 = .ok (.aload_n 0, 1) := by decide +kernel
theorem dX6_findFits_59 : decode cX6_findFits 59 = .ok (.aload_n 0, 1) := by decide +kernel
theorem dX6_findFits_60 : decode cX6_findFits 60 = .ok (.getfield 193, 3) := by decide +kernel
theorem dX6_findFits_63 : decode cX6_findFits 63 = .ok (.ifCond .ne 8, 3) := by decide +kernel
theorem dX6_findFits_66 : decode cX6_findFits 66 = .ok (.iload 5, 2) := by decide +kernel
theorem dX6_findFits_68 : decode cX6_findFits 68 = .ok (.goto 7, 3) := by decide +kernel
theorem dX6_findFits_71 : decode cX6_findFits 71 = .ok (.aload_n 0, 1) := by decide +kernel
theorem dX6_findFits_72 : decode cX6_findFits 72 = .ok (.getfield 196, 3) := by decide +kernel
theorem dX6_findFits_75 : decode cX6_findFits 75 = .ok (.putfield 196, 3) := by decide +kernel
theorem dX6_findFits_78 : decode cX6_findFits 78 = .ok (.aload_n 0, 1) := by decide +kernel
theorem dX6_findFits_79 : decode cX6_findFits 79 = .ok (.dup, 1) := by decide +kernel
theorem dX6_findFits_80 : decode cX6_findFits 80 = .ok (.getfield 193, 3) := by decide +kernel
theorem dX6_findFits_83 : decode cX6_findFits 83 = .ok (.iconst 1, 1) := by decide +kernel
theorem dX6_findFits_84 : decode cX6_findFits 84 = .ok (.iadd, 1) := by decide +kernel
theorem dX6_findFits_85 : decode cX6_findFits 85 = .ok (.putfield 193, 3) := by decide +kernel
theorem dX6_findFits_88 : decode cX6_findFits 88 = .ok (.iinc 5 1, 3) := by decide +kernel
theorem dX6_findFits_91 : decode cX6_findFits 91 = .ok (.goto (-56), 3) := by decide +kernel
theorem dX6_findFits_94 : decode cX6_findFits 94 = .ok (.aload_n 0, 1) := by decide +kernel
theorem dX6_findFits_95 : decode cX6_findFits 95 = .ok (.getfield 7, 3) := by decide +kernel
theorem dX6_findFits_98 : decode cX6_findFits 98 = .ok (.iload_n 3, 1) := by decide +kernel
theorem dX6_findFits_99 : decode cX6_findFits 99 = .ok (.iload 4, 2) := by decide +kernel
theorem dX6_findFits_101 : decode cX6_findFits 101 = .ok (.iastore, 1) := by decide +kernel
theorem dX6_findFits_102 : decode cX6_findFits 102 = .ok (.return_, 1) := by decide +kernel
theorem dX6_fits_0 : decode cX6_fits 0 = .ok (.aload_n 0, 1) := by decide +kernel
theorem dX6_fits_1 : decode cX6_fits 1 = .ok (.iload_n 1, 1) := by decide +kernel
theorem dX6_fits_2 : decode cX6_fits 2 = .ok (.iload_n 2, 1) := by decide +kernel
theorem dX6_fits_3 : decode cX6_fits 3 = .ok (.invokevirtual 202, 3) := by decide +kernel
theorem dX6_fits_6 : decode cX6_fits 6 = .ok (.istore_n 3, 1) := by decide +kernel
theorem dX6_fits_7 : decode cX6_fits 7 = .ok (.iload_n 3, 1) := by decide +kernel
theorem dX6_fits_8 : decode cX6_fits 8 = .ok (.ifCond .eq 9, 3) := by decide +kernel
theorem dX6_fits_11 : decode cX6_fits 11 = .ok (.aload_n 0, 1) := by decide +kernel
theorem dX6_fits_12 : decode cX6_fits 12 = .ok (.iload_n 3, 1) := by decide +kernel
theorem dX6_fits_13 : decode cX6_fits 13 = .ok (.invokevirtual 73, 3) := by decide +kernel
theorem dX6_fits_16 : decode cX6_fits 16 = .ok (.ireturn, 1) := by decide +kernel
theorem dX6_fits_17 : decode cX6_fits 17 = .ok (.aload_n 0, 1) := by decide +kernel
theorem dX6_fits_18 : decode cX6_fits 18 = .ok (.iload_n 1, 1) := by decide +kernel
theorem dX6_fits_19 : decode cX6_fits 19 = .ok (.iload_n 2, 1) := by decide +kernel
theorem dX6_fits_20 : decode cX6_fits 20 = .ok (.invokevirtual 205, 3) := by decide +kernel
theorem dX6_fits_23 : decode cX6_fits 23 = .ok (.aload_n 0, 1) := by decide +kernel
theorem dX6_fits_24 : decode cX6_fits 24 = .ok (.getfield 193, 3) := by decide +kernel
theorem dX6_fits_27 : decode cX6_fits 27 = .ok (.ireturn, 1) := by decide +kernel
theorem dX6_thought_0 : decode cX6_thought 0 = .ok (.aload_n 0, 1) := by decide +kernel
theorem dX6_thought_1 : decode cX6_thought 1 = .ok (.iload_n 1, 1) := by decide +kernel
theorem dX6_thought_2 : decode cX6_thought 2 = .ok (.iload_n 2, 1) := by decide +kernel
theorem dX6_thought_3 : decode cX6_thought 3 = .ok (.invokevirtual 202, 3) := by decide +kernel
theorem dX6_thought_6 : decode cX6_thought 6 = .ok (.istore_n 3, 1) := by decide +kernel
theorem dX6_thought_7 : decode cX6_thought 7 = .ok (.iload_n 3, 1) := by decide +kernel
theorem dX6_thought_8 : decode cX6_thought 8 = .ok (.ifCond .eq 9, 3) := by decide +kernel
theorem dX6_thought_11 : decode cX6_thought 11 = .ok (.aload_n 0, 1) := by decide +kernel
theorem dX6_thought_12 : decode cX6_thought 12 = .ok (.iload_n 3, 1) := by decide +kernel
theorem dX6_thought_13 : decode cX6_thought 13 = .ok (.invokevirtual 73, 3) := by decide +kernel
theorem dX6_thought_16 : decode cX6_thought 16 = .ok (.ireturn, 1) := by decide +kernel
theorem dX6_thought_17 : decode cX6_thought 17 = .ok (.aload_n 0, 1) := by decide +kernel
theorem dX6_thought_18 : decode cX6_thought 18 = .ok (.iload_n 1, 1) := by decide +kernel
theorem dX6_thought_19 : decode cX6_thought 19 = .ok (.iload_n 2, 1) := by decide +kernel
theorem dX6_thought_20 : decode cX6_thought 20 = .ok (.invokevirtual 205, 3) := by decide +kernel
theorem dX6_thought_23 : decode cX6_thought 23 = .ok (.aload_n 0, 1) := by decide +kernel
theorem dX6_thought_24 : decode cX6_thought 24 = .ok (.getfield 193, 3) := by decide +kernel
theorem dX6_thought_27 : decode cX6_thought 27 = .ok (.ifCond .ne 12, 3) := by decide +kernel
theorem dX6_thought_30 : decode cX6_thought 30 = .ok (.aload_n 0, 1) := by decide +kernel
theorem dX6_thought_31 : decode cX6_thought 31 = .ok (.ldc 162, 2) := by decide +kernel
theorem dX6_thought_33 : decode cX6_thought 33 = .ok (.invokevirtual 73, 3) := by decide +kernel
theorem dX6_thought_36 : decode cX6_thought 36 = .ok (.goto 7, 3) := by decide +kernel
theorem dX6_thought_39 : decode cX6_thought 39 = .ok (.aload_n 0, 1) := by decide +kernel
theorem dX6_thought_40 : decode cX6_thought 40 = .ok (.getfield 196, 3) := by decide +kernel
theorem dX6_thought_43 : decode cX6_thought 43 = .ok (.ireturn, 1) := by decide +kernel
theorem dX6_kinds_0 : decode cX6_kinds 0 = .ok (.aload_n 0, 1) := by decide +kernel
theorem dX6_kinds_1 : decode cX6_kinds 1 = .ok (.iload_n 1, 1) := by decide +kernel
theorem dX6_kinds_2 : decode cX6_kinds 2 = .ok (.iload_n 2, 1) := by decide +kernel
theorem dX6_kinds_3 : decode cX6_kinds 3 = .ok (.invokevirtual 202, 3) := by decide +kernel
theorem dX6_kinds_6 : decode cX6_kinds 6 = .ok (.istore_n 3, 1) := by decide +kernel
theorem dX6_kinds_7 : decode cX6_kinds 7 = .ok (.iload_n 3, 1) := by decide +kernel
theorem dX6_kinds_8 : decode cX6_kinds 8 = .ok (.ifCond .eq 9, 3) := by decide +kernel
theorem dX6_kinds_11 : decode cX6_kinds 11 = .ok (.aload_n 0, 1) := by decide +kernel
theorem dX6_kinds_12 : decode cX6_kinds 12 = .ok (.iload_n 3, 1) := by decide +kernel
theorem dX6_kinds_13 : decode cX6_kinds 13 = .ok (.invokevirtual 73, 3) := by decide +kernel
theorem dX6_kinds_16 : decode cX6_kinds 16 = .ok (.ireturn, 1) := by decide +kernel
theorem dX6_kinds_17 : decode cX6_kinds 17 = .ok (.aload_n 0, 1) := by decide +kernel
theorem dX6_kinds_18 : decode cX6_kinds 18 = .ok (.iload_n 2, 1) := by decide +kernel
theorem dX6_kinds_19 : decode cX6_kinds 19 = .ok (.iconst 0, 1) := by decide +kernel
theorem dX6_kinds_20 : decode cX6_kinds 20 = .ok (.invokevirtual 83, 3) := by decide +kernel
theorem dX6_kinds_23 : decode cX6_kinds 23 = .ok (.istore 4, 2) := by decide +kernel
theorem dX6_kinds_25 : decode cX6_kinds 25 = .ok (.iconst 0, 1) := by decide +kernel
theorem dX6_kinds_26 : decode cX6_kinds 26 = .ok (.istore 5, 2) := by decide +kernel
theorem dX6_kinds_28 : decode cX6_kinds 28 = .ok (.iconst 0, 1) := by decide +kernel
theorem dX6_kinds_29 : decode cX6_kinds 29 = .ok (.istore 6, 2) := by decide +kernel
theorem dX6_kinds_31 : decode cX6_kinds 31 = .ok (.iload 6, 2) := by decide +kernel
theorem dX6_kinds_33 : decode cX6_kinds 33 = .ok (.bipush 6, 2) := by decide +kernel
theorem dX6_kinds_35 : decode cX6_kinds 35 = .ok (.if_icmp .gt 42, 3) := by decide +kernel
theorem dX6_kinds_38 : decode cX6_kinds 38 = .ok (.aload_n 0, 1) := by decide +kernel
theorem dX6_kinds_39 : decode cX6_kinds 39 = .ok (.getfield 7, 3) := by decide +kernel
theorem dX6_kinds_42 : decode cX6_kinds 42 = .ok (.iload_n 2, 1) := by decide +kernel
theorem dX6_kinds_43 : decode cX6_kinds 43 = .ok (.iconst 0, 1) := by decide +kernel
theorem dX6_kinds_44 : decode cX6_kinds 44 = .ok (.invokestatic 66, 3) := by decide +kernel
theorem dX6_kinds_47 : decode cX6_kinds 47 = .ok (.iload 6, 2) := by decide +kernel
theorem dX6_kinds_49 : decode cX6_kinds 49 = .ok (.iastore, 1) := by decide +kernel
theorem dX6_kinds_50 : decode cX6_kinds 50 = .ok (.iload 5, 2) := by decide +kernel
theorem dX6_kinds_52 : decode cX6_kinds 52 = .ok (.aload_n 0, 1) := by decide +kernel
theorem dX6_kinds_53 : decode cX6_kinds 53 = .ok (.iload_n 1, 1) := by decide +kernel
theorem dX6_kinds_54 : decode cX6_kinds 54 = .ok (.invokevirtual 199, 3) := by decide +kernel
theorem dX6_kinds_57 : decode cX6_kinds 57 = .ok (.ifCond .eq 10, 3) := by decide +kernel
theorem dX6_kinds_60 : decode cX6_kinds 60 = .ok (.iconst 1, 1) := by decide +kernel
theorem dX6_kinds_61 : decode cX6_kinds 61 = .ok (.iload 6, 2) := by decide +kernel
theorem dX6_kinds_63 : decode cX6_kinds 63 = .ok (.ishl, 1) := by decide +kernel
theorem dX6_kinds_64 : decode cX6_kinds 64 = .ok (.goto 4, 3) := by decide +kernel
theorem dX6_kinds_67 : decode cX6_kinds 67 = .ok (.iconst 0, 1) := by decide +kernel
theorem dX6_kinds_68 : decode cX6_kinds 68 = .ok (.ior, 1) := by decide +kernel
theorem dX6_kinds_69 : decode cX6_kinds 69 = .ok (.istore 5, 2) := by decide +kernel
theorem dX6_kinds_71 : decode cX6_kinds 71 = .ok (.iinc 6 1, 3) := by decide +kernel
theorem dX6_kinds_74 : decode cX6_kinds 74 = .ok (.goto (-43), 3) := by decide +kernel
theorem dX6_kinds_77 : decode cX6_kinds 77 = .ok (.aload_n 0, 1) := by decide +kernel
theorem dX6_kinds_78 : decode cX6_kinds 78 = .ok (.getfield 7, 3) := by decide +kernel
theorem dX6_kinds_81 : decode cX6_kinds 81 = .ok (.iload_n 2, 1) := by decide +kernel
theorem dX6_kinds_82 : decode cX6_kinds 82 = .ok (.iconst 0, 1) := by decide +kernel
theorem dX6_kinds_83 : decode cX6_kinds 83 = .ok (.invokestatic 66, 3) := by decide +kernel
theorem dX6_kinds_86 : decode cX6_kinds 86 = .ok (.iload 4, 2) := by decide +kernel
theorem dX6_kinds_88 : decode cX6_kinds 88 = .ok (.iastore, 1) := by decide +kernel
theorem dX6_kinds_89 : decode cX6_kinds 89 = .ok (.iload 5, 2) := by decide +kernel
theorem dX6_kinds_91 : decode cX6_kinds 91 = .ok (.ireturn, 1) := by decide +kernel
theorem dX6_draw_0 : decode cX6_draw 0 = .ok (.aload_n 0, 1) := by decide +kernel
theorem dX6_draw_1 : decode cX6_draw 1 = .ok (.getfield 7, 3) := by decide +kernel
theorem dX6_draw_4 : decode cX6_draw 4 = .ok (.iconst 4, 1) := by decide +kernel
theorem dX6_draw_5 : decode cX6_draw 5 = .ok (.aload_n 0, 1) := by decide +kernel
theorem dX6_draw_6 : decode cX6_draw 6 = .ok (.getfield 7, 3) := by decide +kernel
theorem dX6_draw_9 : decode cX6_draw 9 = .ok (.iconst 4, 1) := by decide +kernel
theorem dX6_draw_10 : decode cX6_draw 10 = .ok (.iaload, 1) := by decide +kernel
theorem dX6_draw_11 : decode cX6_draw 11 = .ok (.ldc 209, 2) := by decide +kernel
theorem dX6_draw_13 : decode cX6_draw 13 = .ok (.imul, 1) := by decide +kernel
theorem dX6_draw_14 : decode cX6_draw 14 = .ok (.sipush 12345, 3) := by decide +kernel
theorem dX6_draw_17 : decode cX6_draw 17 = .ok (.iadd, 1) := by decide +kernel
theorem dX6_draw_18 : decode cX6_draw 18 = .ok (.iastore, 1) := by decide +kernel
theorem dX6_draw_19 : decode cX6_draw 19 = .ok (.aload_n 0, 1) := by decide +kernel
theorem dX6_draw_20 : decode cX6_draw 20 = .ok (.getfield 7, 3) := by decide +kernel
theorem dX6_draw_23 : decode cX6_draw 23 = .ok (.iconst 4, 1) := by decide +kernel
theorem dX6_draw_24 : decode cX6_draw 24 = .ok (.iaload, 1) := by decide +kernel
theorem dX6_draw_25 : decode cX6_draw 25 = .ok (.bipush 8, 2) := by decide +kernel
theorem dX6_draw_27 : decode cX6_draw 27 = .ok (.iushr, 1) := by decide +kernel
theorem dX6_draw_28 : decode cX6_draw 28 = .ok (.ireturn, 1) := by decide +kernel
theorem dX6_quarrels_0 : decode cX6_quarrels 0 = .ok (.iload_n 1, 1) := by decide +kernel
theorem dX6_quarrels_1 : decode cX6_quarrels 1 = .ok (.i2l, 1) := by decide +kernel
theorem dX6_quarrels_2 : decode cX6_quarrels 2 = .ok (.lconst 1, 1) := by decide +kernel
theorem dX6_quarrels_3 : decode cX6_quarrels 3 = .ok (.ldc2_w 210, 3) := by decide +kernel
theorem dX6_quarrels_6 : decode cX6_quarrels 6 = .ok (.invokestatic 52, 3) := by decide +kernel
theorem dX6_quarrels_9 : decode cX6_quarrels 9 = .ok (.ifCond .ne 10, 3) := by decide +kernel
theorem dX6_quarrels_12 : decode cX6_quarrels 12 = .ok (.aload_n 0, 1) := by decide +kernel
theorem dX6_quarrels_13 : decode cX6_quarrels 13 = .ok (.ldc 49, 2) := by decide +kernel
theorem dX6_quarrels_15 : decode cX6_quarrels 15 = .ok (.invokevirtual 73, 3) := by decide +kernel
theorem dX6_quarrels_18 : decode cX6_quarrels 18 = .ok (.ireturn, 1) := by decide +kernel
theorem dX6_quarrels_19 : decode cX6_quarrels 19 = .ok (.aload_n 0, 1) := by decide +kernel
theorem dX6_quarrels_20 : decode cX6_quarrels 20 = .ok (.getfield 7, 3) := by decide +kernel
theorem dX6_quarrels_23 : decode cX6_quarrels 23 = .ok (.iconst 0, 1) := by decide +kernel
theorem dX6_quarrels_24 : decode cX6_quarrels 24 = .ok (.iaload, 1) := by decide +kernel
theorem dX6_quarrels_25 : decode cX6_quarrels 25 = .ok (.iload_n 1, 1) := by decide +kernel
theorem dX6_quarrels_26 : decode cX6_quarrels 26 = .ok (.iadd, 1) := by decide +kernel
theorem dX6_quarrels_27 : decode cX6_quarrels 27 = .ok (.ldc 143, 2) := by decide +kernel
theorem dX6_quarrels_29 : decode cX6_quarrels 29 = .ok (.if_icmp .le 10, 3) := by decide +kernel
theorem dX6_quarrels_32 : decode cX6_quarrels 32 = .ok (.aload_n 0, 1) := by decide +kernel
theorem dX6_quarrels_33 : decode cX6_quarrels 33 = .ok (.ldc 144, 2) := by decide +kernel
theorem dX6_quarrels_35 : decode cX6_quarrels 35 = .ok (.invokevirtual 73, 3) := by decide +kernel
theorem dX6_quarrels_38 : decode cX6_quarrels 38 = .ok (.ireturn, 1) := by decide +kernel
theorem dX6_quarrels_39 : decode cX6_quarrels 39 = .ok (.iconst 0, 1) := by decide +kernel
theorem dX6_quarrels_40 : decode cX6_quarrels 40 = .ok (.istore_n 2, 1) := by decide +kernel
theorem dX6_quarrels_41 : decode cX6_quarrels 41 = .ok (.iload_n 2, 1) := by decide +kernel
theorem dX6_quarrels_42 : decode cX6_quarrels 42 = .ok (.iload_n 1, 1) := by decide +kernel
theorem dX6_quarrels_43 : decode cX6_quarrels 43 = .ok (.if_icmp .ge 56, 3) := by decide +kernel
theorem dX6_quarrels_46 : decode cX6_quarrels 46 = .ok (.aload_n 0, 1) := by decide +kernel
theorem dX6_quarrels_47 : decode cX6_quarrels 47 = .ok (.invokevirtual 212, 3) := by decide +kernel
theorem dX6_quarrels_50 : decode cX6_quarrels 50 = .ok (.bipush 8, 2) := by decide +kernel
theorem dX6_quarrels_52 : decode cX6_quarrels 52 = .ok (.irem, 1) := by decide +kernel
theorem dX6_quarrels_53 : decode cX6_quarrels 53 = .ok (.istore_n 3, 1) := by decide +kernel
theorem dX6_quarrels_54 : decode cX6_quarrels 54 = .ok (.aload_n 0, 1) := by decide +kernel
theorem dX6_quarrels_55 : decode cX6_quarrels 55 = .ok (.invokevirtual 212, 3) := by decide +kernel
theorem dX6_quarrels_58 : decode cX6_quarrels 58 = .ok (.bipush 8, 2) := by decide +kernel
theorem dX6_quarrels_60 : decode cX6_quarrels 60 = .ok (.irem, 1) := by decide +kernel
theorem dX6_quarrels_61 : decode cX6_quarrels 61 = .ok (.istore 4, 2) := by decide +kernel
theorem dX6_quarrels_63 : decode cX6_quarrels 63 = .ok (.aload_n 0, 1) := by decide +kernel
theorem dX6_quarrels_64 : decode cX6_quarrels 64 = .ok (.iload_n 3, 1) := by decide +kernel
theorem dX6_quarrels_65 : decode cX6_quarrels 65 = .ok (.iload 4, 2) := by decide +kernel
theorem dX6_quarrels_67 : decode cX6_quarrels 67 = .ok (.invokevirtual 115, 3) := by decide +kernel
theorem dX6_quarrels_70 : decode cX6_quarrels 70 = .ok (.ifCond .eq 19, 3) := by decide +kernel
theorem dX6_quarrels_73 : decode cX6_quarrels 73 = .ok (.aload_n 0, 1) := by decide +kernel
theorem dX6_quarrels_74 : decode cX6_quarrels 74 = .ok (.getfield 7, 3) := by decide +kernel
theorem dX6_quarrels_77 : decode cX6_quarrels 77 = .ok (.iconst 5, 1) := by decide +kernel
theorem dX6_quarrels_78 : decode cX6_quarrels 78 = .ok (.iload_n 3, 1) := by decide +kernel
theorem dX6_quarrels_79 : decode cX6_quarrels 79 = .ok (.iastore, 1) := by decide +kernel
theorem dX6_quarrels_80 : decode cX6_quarrels 80 = .ok (.aload_n 0, 1) := by decide +kernel
theorem dX6_quarrels_81 : decode cX6_quarrels 81 = .ok (.getfield 7, 3) := by decide +kernel
theorem dX6_quarrels_84 : decode cX6_quarrels 84 = .ok (.bipush 6, 2) := by decide +kernel
theorem dX6_quarrels_86 : decode cX6_quarrels 86 = .ok (.iload 4, 2) := by decide +kernel
theorem dX6_quarrels_88 : decode cX6_quarrels 88 = .ok (.iastore, 1) := by decide +kernel
theorem dX6_quarrels_89 : decode cX6_quarrels 89 = .ok (.aload_n 0, 1) := by decide +kernel
theorem dX6_quarrels_90 : decode cX6_quarrels 90 = .ok (.invokevirtual 138, 3) := by decide +kernel
theorem dX6_quarrels_93 : decode cX6_quarrels 93 = .ok (.iinc 2 1, 3) := by decide +kernel
theorem dX6_quarrels_96 : decode cX6_quarrels 96 = .ok (.goto (-55), 3) := by decide +kernel
theorem dX6_quarrels_99 : decode cX6_quarrels 99 = .ok (.aload_n 0, 1) := by decide +kernel
theorem dX6_quarrels_100 : decode cX6_quarrels 100 = .ok (.getfield 7, 3) := by decide +kernel
theorem dX6_quarrels_103 : decode cX6_quarrels 103 = .ok (.iconst 2, 1) := by decide +kernel
theorem dX6_quarrels_104 : decode cX6_quarrels 104 = .ok (.iaload, 1) := by decide +kernel
theorem dX6_quarrels_105 : decode cX6_quarrels 105 = .ok (.ireturn, 1) := by decide +kernel
theorem dX6_odds_0 : decode cX6_odds 0 = .ok (.iload_n 1, 1) := by decide +kernel
theorem dX6_odds_1 : decode cX6_odds 1 = .ok (.i2l, 1) := by decide +kernel
theorem dX6_odds_2 : decode cX6_odds 2 = .ok (.lconst 0, 1) := by decide +kernel
theorem dX6_odds_3 : decode cX6_odds 3 = .ok (.ldc2_w 215, 3) := by decide +kernel
theorem dX6_odds_6 : decode cX6_odds 6 = .ok (.invokestatic 52, 3) := by decide +kernel
theorem dX6_odds_9 : decode cX6_odds 9 = .ok (.ifCond .eq 13, 3) := by decide +kernel
theorem dX6_odds_12 : decode cX6_odds 12 = .ok (.iload_n 2, 1) := by decide +kernel
theorem dX6_odds_13 : decode cX6_odds 13 = .ok (.i2l, 1) := by decide +kernel
theorem dX6_odds_14 : decode cX6_odds 14 = .ok (.lconst 0, 1) := by decide +kernel
theorem dX6_odds_15 : decode cX6_odds 15 = .ok (.lconst 1, 1) := by decide +kernel
theorem dX6_odds_16 : decode cX6_odds 16 = .ok (.invokestatic 52, 3) := by decide +kernel
theorem dX6_odds_19 : decode cX6_odds 19 = .ok (.ifCond .ne 11, 3) := by decide +kernel
theorem dX6_odds_22 : decode cX6_odds 22 = .ok (.aload_n 0, 1) := by decide +kernel
theorem dX6_odds_23 : decode cX6_odds 23 = .ok (.ldc 49, 2) := by decide +kernel
theorem dX6_odds_25 : decode cX6_odds 25 = .ok (.invokevirtual 73, 3) := by decide +kernel
theorem dX6_odds_28 : decode cX6_odds 28 = .ok (.i2l, 1) := by decide +kernel
theorem dX6_odds_29 : decode cX6_odds 29 = .ok (.lreturn, 1) := by decide +kernel
theorem dX6_odds_30 : decode cX6_odds 30 = .ok (.aload_n 0, 1) := by decide +kernel
theorem dX6_odds_31 : decode cX6_odds 31 = .ok (.getfield 7, 3) := by decide +kernel
theorem dX6_odds_34 : decode cX6_odds 34 = .ok (.iconst 1, 1) := by decide +kernel
theorem dX6_odds_35 : decode cX6_odds 35 = .ok (.iaload, 1) := by decide +kernel
theorem dX6_odds_36 : decode cX6_odds 36 = .ok (.aload_n 0, 1) := by decide +kernel
theorem dX6_odds_37 : decode cX6_odds 37 = .ok (.getfield 7, 3) := by decide +kernel
theorem dX6_odds_40 : decode cX6_odds 40 = .ok (.iconst 1, 1) := by decide +kernel
theorem dX6_odds_41 : decode cX6_odds 41 = .ok (.iaload, 1) := by decide +kernel
theorem dX6_odds_42 : decode cX6_odds 42 = .ok (.iconst 1, 1) := by decide +kernel
theorem dX6_odds_43 : decode cX6_odds 43 = .ok (.isub, 1) := by decide +kernel
theorem dX6_odds_44 : decode cX6_odds 44 = .ok (.imul, 1) := by decide +kernel
theorem dX6_odds_45 : decode cX6_odds 45 = .ok (.istore_n 3, 1) := by decide +kernel
theorem dX6_odds_46 : decode cX6_odds 46 = .ok (.iload_n 3, 1) := by decide +kernel
theorem dX6_odds_47 : decode cX6_odds 47 = .ok (.ifCond .ge 7, 3) := by decide +kernel
theorem dX6_odds_50 : decode cX6_odds 50 = .ok (.iconst 0, 1) := by decide +kernel
theorem dX6_odds_51 : decode cX6_odds 51 = .ok (.goto 4, 3) := by decide +kernel
theorem dX6_odds_54 : decode cX6_odds 54 = .ok (.iload_n 3, 1) := by decide +kernel
theorem dX6_odds_55 : decode cX6_odds 55 = .ok (.istore_n 3, 1) := by decide +kernel
theorem dX6_odds_56 : decode cX6_odds 56 = .ok (.bipush 64, 2) := by decide +kernel
theorem dX6_odds_58 : decode cX6_odds 58 = .ok (.istore 4, 2) := by decide +kernel
theorem dX6_odds_60 : decode cX6_odds 60 = .ok (.iload_n 3, 1) := by decide +kernel
theorem dX6_odds_61 : decode cX6_odds 61 = .ok (.iload 4, 2) := by decide +kernel
theorem dX6_odds_63 : decode cX6_odds 63 = .ok (.irem, 1) := by decide +kernel
theorem dX6_odds_64 : decode cX6_odds 64 = .ok (.ifCond .ne 11, 3) := by decide +kernel
theorem dX6_odds_67 : decode cX6_odds 67 = .ok (.bipush 64, 2) := by decide +kernel
theorem dX6_odds_69 : decode cX6_odds 69 = .ok (.iload 4, 2) := by decide +kernel
theorem dX6_odds_71 : decode cX6_odds 71 = .ok (.irem, 1) := by decide +kernel
theorem dX6_odds_72 : decode cX6_odds 72 = .ok (.ifCond .eq 9, 3) := by decide +kernel
theorem dX6_odds_75 : decode cX6_odds 75 = .ok (.iinc 4 (-1), 3) := by decide +kernel
theorem dX6_odds_78 : decode cX6_odds 78 = .ok (.goto (-18), 3) := by decide +kernel
theorem dX6_odds_81 : decode cX6_odds 81 = .ok (.lconst 1, 1) := by decide +kernel
theorem dX6_odds_82 : decode cX6_odds 82 = .ok (.lstore 5, 2) := by decide +kernel
theorem dX6_odds_84 : decode cX6_odds 84 = .ok (.iconst 0, 1) := by decide +kernel
theorem dX6_odds_85 : decode cX6_odds 85 = .ok (.istore 7, 2) := by decide +kernel
theorem dX6_odds_87 : decode cX6_odds 87 = .ok (.iload 7, 2) := by decide +kernel
theorem dX6_odds_89 : decode cX6_odds 89 = .ok (.iload_n 1, 1) := by decide +kernel
theorem dX6_odds_90 : decode cX6_odds 90 = .ok (.if_icmp .ge 32, 3) := by decide +kernel
theorem dX6_odds_93 : decode cX6_odds 93 = .ok (.lload 5, 2) := by decide +kernel
theorem dX6_odds_95 : decode cX6_odds 95 = .ok (.iload_n 2, 1) := by decide +kernel
theorem dX6_odds_96 : decode cX6_odds 96 = .ok (.ifCond .ne 11, 3) := by decide +kernel
theorem dX6_odds_99 : decode cX6_odds 99 = .ok (.iload_n 3, 1) := by decide +kernel
theorem dX6_odds_100 : decode cX6_odds 100 = .ok (.iload 4, 2) := by decide +kernel
theorem dX6_odds_102 : decode cX6_odds 102 = .ok (.idiv, 1) := by decide +kernel
theorem dX6_odds_103 : decode cX6_odds 103 = .ok (.i2l, 1) := by decide +kernel
theorem dX6_odds_104 : decode cX6_odds 104 = .ok (.goto 9, 3) := by decide +kernel
theorem dX6_odds_107 : decode cX6_odds 107 = .ok (.bipush 64, 2) := by decide +kernel
theorem dX6_odds_109 : decode cX6_odds 109 = .ok (.iload 4, 2) := by decide +kernel
theorem dX6_odds_111 : decode cX6_odds 111 = .ok (.idiv, 1) := by decide +kernel
theorem dX6_odds_112 : decode cX6_odds 112 = .ok (.i2l, 1) := by decide +kernel
theorem dX6_odds_113 : decode cX6_odds 113 = .ok (.lmul, 1) := by decide +kernel
theorem dX6_odds_114 : decode cX6_odds 114 = .ok (.lstore 5, 2) := by decide +kernel
theorem dX6_odds_116 : decode cX6_odds 116 = .ok (.iinc 7 1, 3) := by decide +kernel
theorem dX6_odds_119 : decode cX6_odds 119 = .ok (.goto (-32), 3) := by decide +kernel
theorem dX6_odds_122 : decode cX6_odds 122 = .ok (.lload 5, 2) := by decide +kernel
theorem dX6_odds_124 : decode cX6_odds 124 = .ok (.lreturn, 1) := by decide +kernel
theorem dX6_seed_0 : decode cX6_seed 0 = .ok (.aload_n 0, 1) := by decide +kernel
theorem dX6_seed_1 : decode cX6_seed 1 = .ok (.iconst 4, 1) := by decide +kernel
theorem dX6_seed_2 : decode cX6_seed 2 = .ok (.iload_n 1, 1) := by decide +kernel
theorem dX6_seed_3 : decode cX6_seed 3 = .ok (.invokevirtual 93, 3) := by decide +kernel
theorem dX6_seed_6 : decode cX6_seed 6 = .ok (.ireturn, 1) := by decide +kernel
theorem dX6_feed_0 : decode cX6_feed 0 = .ok (.iload_n 2, 1) := by decide +kernel
theorem dX6_feed_1 : decode cX6_feed 1 = .ok (.i2l, 1) := by decide +kernel
theorem dX6_feed_2 : decode cX6_feed 2 = .ok (.lconst 1, 1) := by decide +kernel
theorem dX6_feed_3 : decode cX6_feed 3 = .ok (.ldc2_w 217, 3) := by decide +kernel
theorem dX6_feed_6 : decode cX6_feed 6 = .ok (.invokestatic 52, 3) := by decide +kernel
theorem dX6_feed_9 : decode cX6_feed 9 = .ok (.ifCond .ne 10, 3) := by decide +kernel
theorem dX6_feed_12 : decode cX6_feed 12 = .ok (.aload_n 0, 1) := by decide +kernel
theorem dX6_feed_13 : decode cX6_feed 13 = .ok (.ldc 49, 2) := by decide +kernel
theorem dX6_feed_15 : decode cX6_feed 15 = .ok (.invokevirtual 73, 3) := by decide +kernel
theorem dX6_feed_18 : decode cX6_feed 18 = .ok (.ireturn, 1) := by decide +kernel
theorem dX6_feed_19 : decode cX6_feed 19 = .ok (.aload_n 0, 1) := by decide +kernel
theorem dX6_feed_20 : decode cX6_feed 20 = .ok (.getfield 219, 3) := by decide +kernel
theorem dX6_feed_23 : decode cX6_feed 23 = .ok (.iload_n 2, 1) := by decide +kernel
theorem dX6_feed_24 : decode cX6_feed 24 = .ok (.iadd, 1) := by decide +kernel
theorem dX6_feed_25 : decode cX6_feed 25 = .ok (.bipush 120, 2) := by decide +kernel
theorem dX6_feed_27 : decode cX6_feed 27 = .ok (.if_icmp .le 10, 3) := by decide +kernel
theorem dX6_feed_30 : decode cX6_feed 30 = .ok (.aload_n 0, 1) := by decide +kernel
theorem dX6_feed_31 : decode cX6_feed 31 = .ok (.ldc 77, 2) := by decide +kernel
theorem dX6_feed_33 : decode cX6_feed 33 = .ok (.invokevirtual 73, 3) := by decide +kernel
theorem dX6_feed_36 : decode cX6_feed 36 = .ok (.ireturn, 1) := by decide +kernel
theorem dX6_feed_37 : decode cX6_feed 37 = .ok (.iload_n 2, 1) := by decide +kernel
theorem dX6_feed_38 : decode cX6_feed 38 = .ok (.iconst 1, 1) := by decide +kernel
theorem dX6_feed_39 : decode cX6_feed 39 = .ok (.isub, 1) := by decide +kernel
theorem dX6_feed_40 : decode cX6_feed 40 = .ok (.istore_n 3, 1) := by decide +kernel
theorem dX6_feed_41 : decode cX6_feed 41 = .ok (.iload_n 3, 1) := by decide +kernel
theorem dX6_feed_42 : decode cX6_feed 42 = .ok (.ifCond .lt 38, 3) := by decide +kernel
theorem dX6_feed_45 : decode cX6_feed 45 = .ok (.aload_n 0, 1) := by decide +kernel
theorem dX6_feed_46 : decode cX6_feed 46 = .ok (.getfield 34, 3) := by decide +kernel
theorem dX6_feed_49 : decode cX6_feed 49 = .ok (.aload_n 0, 1) := by decide +kernel
theorem dX6_feed_50 : decode cX6_feed 50 = .ok (.getfield 219, 3) := by decide +kernel
theorem dX6_feed_53 : decode cX6_feed 53 = .ok (.iload_n 1, 1) := by decide +kernel
theorem dX6_feed_54 : decode cX6_feed 54 = .ok (.bipush 8, 2) := by decide +kernel
theorem dX6_feed_56 : decode cX6_feed 56 = .ok (.iload_n 3, 1) := by decide +kernel
theorem dX6_feed_57 : decode cX6_feed 57 = .ok (.imul, 1) := by decide +kernel
theorem dX6_feed_58 : decode cX6_feed 58 = .ok (.ishr, 1) := by decide +kernel
theorem dX6_feed_59 : decode cX6_feed 59 = .ok (.sipush 255, 3) := by decide +kernel
theorem dX6_feed_62 : decode cX6_feed 62 = .ok (.iand, 1) := by decide +kernel
theorem dX6_feed_63 : decode cX6_feed 63 = .ok (.iastore, 1) := by decide +kernel
theorem dX6_feed_64 : decode cX6_feed 64 = .ok (.aload_n 0, 1) := by decide +kernel
theorem dX6_feed_65 : decode cX6_feed 65 = .ok (.dup, 1) := by decide +kernel
theorem dX6_feed_66 : decode cX6_feed 66 = .ok (.getfield 219, 3) := by decide +kernel
theorem dX6_feed_69 : decode cX6_feed 69 = .ok (.iconst 1, 1) := by decide +kernel
theorem dX6_feed_70 : decode cX6_feed 70 = .ok (.iadd, 1) := by decide +kernel
theorem dX6_feed_71 : decode cX6_feed 71 = .ok (.putfield 219, 3) := by decide +kernel
theorem dX6_feed_74 : decode cX6_feed 74 = .ok (.iinc 3 (-1), 3) := by decide +kernel
theorem dX6_feed_77 : decode cX6_feed 77 = .ok (.goto (-36), 3) := by decide +kernel
theorem dX6_feed_80 : decode cX6_feed 80 = .ok (.aload_n 0, 1) := by decide +kernel
theorem dX6_feed_81 : decode cX6_feed 81 = .ok (.getfield 219, 3) := by decide +kernel
theorem dX6_feed_84 : decode cX6_feed 84 = .ok (.ireturn, 1) := by decide +kernel
theorem dX6_wipe_0 : decode cX6_wipe 0 = .ok (.aload_n 0, 1) := by decide +kernel
theorem dX6_wipe_1 : decode cX6_wipe 1 = .ok (.getfield 219, 3) := by decide +kernel
theorem dX6_wipe_4 : decode cX6_wipe 4 = .ok (.istore_n 1, 1) := by decide +kernel
theorem dX6_wipe_5 : decode cX6_wipe 5 = .ok (.aload_n 0, 1) := by decide +kernel
theorem dX6_wipe_6 : decode cX6_wipe 6 = .ok (.iconst 0, 1) := by decide +kernel
theorem dX6_wipe_7 : decode cX6_wipe 7 = .ok (.putfield 219, 3) := by decide +kernel
theorem dX6_wipe_10 : decode cX6_wipe 10 = .ok (.iload_n 1, 1) := by decide +kernel
theorem dX6_wipe_11 : decode cX6_wipe 11 = .ok (.ireturn, 1) := by decide +kernel
theorem dX6_byteAt_0 : decode cX6_byteAt 0 = .ok (.iload_n 1, 1) := by decide +kernel
theorem dX6_byteAt_1 : decode cX6_byteAt 1 = .ok (.aload_n 0, 1) := by decide +kernel
theorem dX6_byteAt_2 : decode cX6_byteAt 2 = .ok (.getfield 219, 3) := by decide +kernel
theorem dX6_byteAt_5 : decode cX6_byteAt 5 = .ok (.if_icmp .ge 12, 3) := by decide +kernel
theorem dX6_byteAt_8 : decode cX6_byteAt 8 = .ok (.aload_n 0, 1) := by decide +kernel
theorem dX6_byteAt_9 : decode cX6_byteAt 9 = .ok (.getfield 34, 3) := by decide +kernel
theorem dX6_byteAt_12 : decode cX6_byteAt 12 = .ok (.iload_n 1, 1) := by decide +kernel
theorem dX6_byteAt_13 : decode cX6_byteAt 13 = .ok (.iaload, 1) := by decide +kernel
theorem dX6_byteAt_14 : decode cX6_byteAt 14 = .ok (.goto 4, 3) := by decide +kernel
theorem dX6_byteAt_17 : decode cX6_byteAt 17 = .ok (.iconst (-1), 1) := by decide +kernel
theorem dX6_byteAt_18 : decode cX6_byteAt 18 = .ok (.ireturn, 1) := by decide +kernel
theorem dX6_isLetter_0 : decode cX6_isLetter 0 = .ok (.iload_n 0, 1) := by decide +kernel
theorem dX6_isLetter_1 : decode cX6_isLetter 1 = .ok (.i2l, 1) := by decide +kernel
theorem dX6_isLetter_2 : decode cX6_isLetter 2 = .ok (.ldc2_w 222, 3) := by decide +kernel
theorem dX6_isLetter_5 : decode cX6_isLetter 5 = .ok (.ldc2_w 224, 3) := by decide +kernel
theorem dX6_isLetter_8 : decode cX6_isLetter 8 = .ok (.invokestatic 52, 3) := by decide +kernel
theorem dX6_isLetter_11 : decode cX6_isLetter 11 = .ok (.ireturn, 1) := by decide +kernel
theorem dX6_isDigit_0 : decode cX6_isDigit 0 = .ok (.iload_n 0, 1) := by decide +kernel
theorem dX6_isDigit_1 : decode cX6_isDigit 1 = .ok (.i2l, 1) := by decide +kernel
theorem dX6_isDigit_2 : decode cX6_isDigit 2 = .ok (.ldc2_w 226, 3) := by decide +kernel
theorem dX6_isDigit_5 : decode cX6_isDigit 5 = .ok (.ldc2_w 228, 3) := by decide +kernel
theorem dX6_isDigit_8 : decode cX6_isDigit 8 = .ok (.invokestatic 52, 3) := by decide +kernel
theorem dX6_isDigit_11 : decode cX6_isDigit 11 = .ok (.ireturn, 1) := by decide +kernel
theorem dX6_token_0 : decode cX6_token 0 = .ok (.aload_n 0, 1) := by decide +kernel
theorem dX6_token_1 : decode cX6_token 1 = .ok (.aload_n 0, 1) := by decide +kernel
theorem dX6_token_2 : decode cX6_token 2 = .ok (.getfield 230, 3) := by decide +kernel
theorem dX6_token_5 : decode cX6_token 5 = .ok (.putfield 233, 3) := by decide +kernel
theorem dX6_token_8 : decode cX6_token 8 = .ok (.aload_n 0, 1) := by decide +kernel
theorem dX6_token_9 : decode cX6_token 9 = .ok (.aload_n 0, 1) := by decide +kernel
theorem dX6_token_10 : decode cX6_token 10 = .ok (.getfield 233, 3) := by decide +kernel
theorem dX6_token_13 : decode cX6_token 13 = .ok (.invokevirtual 236, 3) := by decide +kernel
theorem dX6_token_16 : decode cX6_token 16 = .ok (.bipush 32, 2) := by decide +kernel
theorem dX6_token_18 : decode cX6_token 18 = .ok (.if_icmp .ne 16, 3) := by decide +kernel
theorem dX6_token_21 : decode cX6_token 21 = .ok (.aload_n 0, 1) := by decide +kernel
theorem dX6_token_22 : decode cX6_token 22 = .ok (.dup, 1) := by decide +kernel
theorem dX6_token_23 : decode cX6_token 23 = .ok (.getfield 233, 3) := by decide +kernel
theorem dX6_token_26 : decode cX6_token 26 = .ok (.iconst 1, 1) := by decide +kernel
theorem dX6_token_27 : decode cX6_token 27 = .ok (.iadd, 1) := by decide +kernel
theorem dX6_token_28 : decode cX6_token 28 = .ok (.putfield 233, 3) := by decide +kernel
theorem dX6_token_31 : decode cX6_token 31 = .ok (.goto (-23), 3) := by decide +kernel
theorem dX6_token_34 : decode cX6_token 34 = .ok (.aload_n 0, 1) := by decide +kernel
theorem dX6_token_35 : decode cX6_token 35 = .ok (.aload_n 0, 1) := by decide +kernel
theorem dX6_token_36 : decode cX6_token 36 = .ok (.getfield 233, 3) := by decide +kernel
theorem dX6_token_39 : decode cX6_token 39 = .ok (.invokevirtual 236, 3) := by decide +kernel
theorem dX6_token_42 : decode cX6_token 42 = .ok (.invokestatic 239, 3) := by decide +kernel
theorem dX6_token_45 : decode cX6_token 45 = .ok (.istore_n 1, 1) := by decide +kernel
theorem dX6_token_46 : decode cX6_token 46 = .ok (.aload_n 0, 1) := by decide +kernel
theorem dX6_token_47 : decode cX6_token 47 = .ok (.aload_n 0, 1) := by decide +kernel
theorem dX6_token_48 : decode cX6_token 48 = .ok (.getfield 233, 3) := by decide +kernel
theorem dX6_token_51 : decode cX6_token 51 = .ok (.invokevirtual 236, 3) := by decide +kernel
theorem dX6_token_54 : decode cX6_token 54 = .ok (.invokestatic 242, 3) := by decide +kernel
theorem dX6_token_57 : decode cX6_token 57 = .ok (.istore_n 2, 1) := by decide +kernel
theorem dX6_token_58 : decode cX6_token 58 = .ok (.aload_n 0, 1) := by decide +kernel
theorem dX6_token_59 : decode cX6_token 59 = .ok (.aload_n 0, 1) := by decide +kernel
theorem dX6_token_60 : decode cX6_token 60 = .ok (.getfield 233, 3) := by decide +kernel
theorem dX6_token_63 : decode cX6_token 63 = .ok (.aload_n 0, 1) := by decide +kernel
theorem dX6_token_64 : decode cX6_token 64 = .ok (.getfield 219, 3) := by decide +kernel
theorem dX6_token_67 : decode cX6_token 67 = .ok (.if_icmp .ge 12, 3) := by decide +kernel
theorem dX6_token_70 : decode cX6_token 70 = .ok (.aload_n 0, 1) := by decide +kernel
theorem dX6_token_71 : decode cX6_token 71 = .ok (.getfield 233, 3) := by decide +kernel
theorem dX6_token_74 : decode cX6_token 74 = .ok (.iconst 1, 1) := by decide +kernel
theorem dX6_token_75 : decode cX6_token 75 = .ok (.iadd, 1) := by decide +kernel
theorem dX6_token_76 : decode cX6_token 76 = .ok (.goto 7, 3) := by decide +kernel
theorem dX6_token_79 : decode cX6_token 79 = .ok (.aload_n 0, 1) := by decide +kernel
theorem dX6_token_80 : decode cX6_token 80 = .ok (.getfield 233, 3) := by decide +kernel
theorem dX6_token_83 : decode cX6_token 83 = .ok (.putfield 230, 3) := by decide +kernel
theorem dX6_token_86 : decode cX6_token 86 = .ok (.iload_n 1, 1) := by decide +kernel
theorem dX6_token_87 : decode cX6_token 87 = .ok (.ifCond .eq 17, 3) := by decide +kernel
theorem dX6_token_90 : decode cX6_token 90 = .ok (.aload_n 0, 1) := by decide +kernel
theorem dX6_token_91 : decode cX6_token 91 = .ok (.aload_n 0, 1) := by decide +kernel
theorem dX6_token_92 : decode cX6_token 92 = .ok (.getfield 230, 3) := by decide +kernel
theorem dX6_token_95 : decode cX6_token 95 = .ok (.invokevirtual 236, 3) := by decide +kernel
theorem dX6_token_98 : decode cX6_token 98 = .ok (.invokestatic 239, 3) := by decide +kernel
theorem dX6_token_101 : decode cX6_token 101 = .ok (.ifCond .ne 21, 3) := by decide +kernel
theorem dX6_token_104 : decode cX6_token 104 = .ok (.iload_n 2, 1) := by decide +kernel
theorem dX6_token_105 : decode cX6_token 105 = .ok (.ifCond .eq 30, 3) := by decide +kernel
theorem dX6_token_108 : decode cX6_token 108 = .ok (.aload_n 0, 1) := by decide +kernel
theorem dX6_token_109 : decode cX6_token 109 = .ok (.aload_n 0, 1) := by decide +kernel
theorem dX6_token_110 : decode cX6_token 110 = .ok (.getfield 230, 3) := by decide +kernel
theorem dX6_token_113 : decode cX6_token 113 = .ok (.invokevirtual 236, 3) := by decide +kernel
theorem dX6_token_116 : decode cX6_token 116 = .ok (.invokestatic 242, 3) := by decide +kernel
theorem dX6_token_119 : decode cX6_token 119 = .ok (.ifCond .eq 16, 3) := by decide +kernel
theorem dX6_token_122 : decode cX6_token 122 = .ok (.aload_n 0, 1) := by decide +kernel
theorem dX6_token_123 : decode cX6_token 123 = .ok (.dup, 1) := by decide +kernel
theorem dX6_token_124 : decode cX6_token 124 = .ok (.getfield 230, 3) := by decide +kernel
theorem dX6_token_127 : decode cX6_token 127 = .ok (.iconst 1, 1) := by decide +kernel
theorem dX6_token_128 : decode cX6_token 128 = .ok (.iadd, 1) := by decide +kernel
theorem dX6_token_129 : decode cX6_token 129 = .ok (.putfield 230, 3) := by decide +kernel
theorem dX6_token_132 : decode cX6_token 132 = .ok (.goto (-46), 3) := by decide +kernel
theorem dX6_token_135 : decode cX6_token 135 = .ok (.return_, 1) := by decide +kernel
theorem dX6_must_0 : decode cX6_must 0 = .ok (.aload_n 0, 1) := by decide +kernel
theorem dX6_must_1 : decode cX6_must 1 = .ok (.aload_n 0, 1) := by decide +kernel
theorem dX6_must_2 : decode cX6_must 2 = .ok (.getfield 245, 3) := by decide +kernel
theorem dX6_must_5 : decode cX6_must 5 = .ok (.ifCond .ne 7, 3) := by decide +kernel
theorem dX6_must_8 : decode cX6_must 8 = .ok (.iload_n 1, 1) := by decide +kernel
theorem dX6_must_9 : decode cX6_must 9 = .ok (.ifCond .ne 7, 3) := by decide +kernel
theorem dX6_must_12 : decode cX6_must 12 = .ok (.iconst 1, 1) := by decide +kernel
theorem dX6_must_13 : decode cX6_must 13 = .ok (.goto 4, 3) := by decide +kernel
theorem dX6_must_16 : decode cX6_must 16 = .ok (.iconst 0, 1) := by decide +kernel
theorem dX6_must_17 : decode cX6_must 17 = .ok (.putfield 245, 3) := by decide +kernel
theorem dX6_must_20 : decode cX6_must 20 = .ok (.aload_n 0, 1) := by decide +kernel
theorem dX6_must_21 : decode cX6_must 21 = .ok (.getfield 245, 3) := by decide +kernel
theorem dX6_must_24 : decode cX6_must 24 = .ok (.ifCond .ne 7, 3) := by decide +kernel
theorem dX6_must_27 : decode cX6_must 27 = .ok (.aload_n 0, 1) := by decide +kernel
theorem dX6_must_28 : decode cX6_must 28 = .ok (.invokevirtual 249, 3) := by decide +kernel
theorem dX6_must_31 : decode cX6_must 31 = .ok (.return_, 1) := by decide +kernel
theorem dX6_word_0 : decode cX6_word 0 = .ok (.lconst 0, 1) := by decide +kernel
theorem dX6_word_1 : decode cX6_word 1 = .ok (.lstore_n 1, 1) := by decide +kernel
theorem dX6_word_2 : decode cX6_word 2 = .ok (.aload_n 0, 1) := by decide +kernel
theorem dX6_word_3 : decode cX6_word 3 = .ok (.getfield 233, 3) := by decide +kernel
theorem dX6_word_6 : decode cX6_word 6 = .ok (.istore_n 3, 1) := by decide +kernel
theorem dX6_word_7 : decode cX6_word 7 = .ok (.iload_n 3, 1) := by decide +kernel
theorem dX6_word_8 : decode cX6_word 8 = .ok (.aload_n 0, 1) := by decide +kernel
theorem dX6_word_9 : decode cX6_word 9 = .ok (.getfield 230, 3) := by decide +kernel
theorem dX6_word_12 : decode cX6_word 12 = .ok (.if_icmp .ge 38, 3) := by decide +kernel
theorem dX6_word_15 : decode cX6_word 15 = .ok (.lload_n 1, 1) := by decide +kernel
theorem dX6_word_16 : decode cX6_word 16 = .ok (.ldc2_w 252, 3) := by decide +kernel
theorem dX6_word_19 : decode cX6_word 19 = .ok (.lcmp, 1) := by decide +kernel
theorem dX6_word_20 : decode cX6_word 20 = .ok (.ifCond .le 7, 3) := by decide +kernel
theorem dX6_word_23 : decode cX6_word 23 = .ok (.lload_n 1, 1) := by decide +kernel
theorem dX6_word_24 : decode cX6_word 24 = .ok (.goto 19, 3) := by decide +kernel
theorem dX6_word_27 : decode cX6_word 27 = .ok (.ldc2_w 254, 3) := by decide +kernel
theorem dX6_word_30 : decode cX6_word 30 = .ok (.lload_n 1, 1) := by decide +kernel
theorem dX6_word_31 : decode cX6_word 31 = .ok (.lmul, 1) := by decide +kernel
theorem dX6_word_32 : decode cX6_word 32 = .ok (.aload_n 0, 1) := by decide +kernel
theorem dX6_word_33 : decode cX6_word 33 = .ok (.getfield 34, 3) := by decide +kernel
theorem dX6_word_36 : decode cX6_word 36 = .ok (.iload_n 3, 1) := by decide +kernel
theorem dX6_word_37 : decode cX6_word 37 = .ok (.iaload, 1) := by decide +kernel
theorem dX6_word_38 : decode cX6_word 38 = .ok (.bipush 96, 2) := by decide +kernel
theorem dX6_word_40 : decode cX6_word 40 = .ok (.isub, 1) := by decide +kernel
theorem dX6_word_41 : decode cX6_word 41 = .ok (.i2l, 1) := by decide +kernel
theorem dX6_word_42 : decode cX6_word 42 = .ok (.ladd, 1) := by decide +kernel
theorem dX6_word_43 : decode cX6_word 43 = .ok (.lstore_n 1, 1) := by decide +kernel
theorem dX6_word_44 : decode cX6_word 44 = .ok (.iinc 3 1, 3) := by decide +kernel
theorem dX6_word_47 : decode cX6_word 47 = .ok (.goto (-40), 3) := by decide +kernel
theorem dX6_word_50 : decode cX6_word 50 = .ok (.aload_n 0, 1) := by decide +kernel
theorem dX6_word_51 : decode cX6_word 51 = .ok (.getfield 245, 3) := by decide +kernel
theorem dX6_word_54 : decode cX6_word 54 = .ok (.ifCond .ne 17, 3) := by decide +kernel
theorem dX6_word_57 : decode cX6_word 57 = .ok (.aload_n 0, 1) := by decide +kernel
theorem dX6_word_58 : decode cX6_word 58 = .ok (.aload_n 0, 1) := by decide +kernel
theorem dX6_word_59 : decode cX6_word 59 = .ok (.getfield 233, 3) := by decide +kernel
theorem dX6_word_62 : decode cX6_word 62 = .ok (.invokevirtual 236, 3) := by decide +kernel
theorem dX6_word_65 : decode cX6_word 65 = .ok (.invokestatic 239, 3) := by decide +kernel
theorem dX6_word_68 : decode cX6_word 68 = .ok (.ifCond .ne 7, 3) := by decide +kernel
theorem dX6_word_71 : decode cX6_word 71 = .ok (.lconst 0, 1) := by decide +kernel
theorem dX6_word_72 : decode cX6_word 72 = .ok (.goto 4, 3) := by decide +kernel
theorem dX6_word_75 : decode cX6_word 75 = .ok (.lload_n 1, 1) := by decide +kernel
theorem dX6_word_76 : decode cX6_word 76 = .ok (.lreturn, 1) := by decide +kernel
theorem dX6_number_0 : decode cX6_number 0 = .ok (.aload_n 0, 1) := by decide +kernel
theorem dX6_number_1 : decode cX6_number 1 = .ok (.getfield 245, 3) := by decide +kernel
theorem dX6_number_4 : decode cX6_number 4 = .ok (.ifCond .eq 4, 3) := by decide +kernel
theorem dX6_number_7 : decode cX6_number 7 = .ok (.return_, 1) := by decide +kernel
theorem dX6_number_8 : decode cX6_number 8 = .ok (.aload_n 0, 1) := by decide +kernel
theorem dX6_number_9 : decode cX6_number 9 = .ok (.aload_n 0, 1) := by decide +kernel
theorem dX6_number_10 : decode cX6_number 10 = .ok (.getfield 233, 3) := by decide +kernel
theorem dX6_number_13 : decode cX6_number 13 = .ok (.invokevirtual 236, 3) := by decide +kernel
theorem dX6_number_16 : decode cX6_number 16 = .ok (.invokestatic 242, 3) := by decide +kernel
theorem dX6_number_19 : decode cX6_number 19 = .ok (.istore_n 3, 1) := by decide +kernel
theorem dX6_number_20 : decode cX6_number 20 = .ok (.iconst 0, 1) := by decide +kernel
theorem dX6_number_21 : decode cX6_number 21 = .ok (.istore 4, 2) := by decide +kernel
theorem dX6_number_23 : decode cX6_number 23 = .ok (.aload_n 0, 1) := by decide +kernel
theorem dX6_number_24 : decode cX6_number 24 = .ok (.getfield 233, 3) := by decide +kernel
theorem dX6_number_27 : decode cX6_number 27 = .ok (.istore 5, 2) := by decide +kernel
theorem dX6_number_29 : decode cX6_number 29 = .ok (.iload 5, 2) := by decide +kernel
theorem dX6_number_31 : decode cX6_number 31 = .ok (.aload_n 0, 1) := by decide +kernel
theorem dX6_number_32 : decode cX6_number 32 = .ok (.getfield 230, 3) := by decide +kernel
theorem dX6_number_35 : decode cX6_number 35 = .ok (.if_icmp .ge 44, 3) := by decide +kernel
theorem dX6_number_38 : decode cX6_number 38 = .ok (.iload_n 3, 1) := by decide +kernel
theorem dX6_number_39 : decode cX6_number 39 = .ok (.ifCond .eq 40, 3) := by decide +kernel
theorem dX6_number_42 : decode cX6_number 42 = .ok (.iload 4, 2) := by decide +kernel
theorem dX6_number_44 : decode cX6_number 44 = .ok (.sipush 999, 3) := by decide +kernel
theorem dX6_number_47 : decode cX6_number 47 = .ok (.if_icmp .le 8, 3) := by decide +kernel
theorem dX6_number_50 : decode cX6_number 50 = .ok (.iload 4, 2) := by decide +kernel
theorem dX6_number_52 : decode cX6_number 52 = .ok (.goto 19, 3) := by decide +kernel
theorem dX6_number_55 : decode cX6_number 55 = .ok (.bipush 10, 2) := by decide +kernel
theorem dX6_number_57 : decode cX6_number 57 = .ok (.iload 4, 2) := by decide +kernel
theorem dX6_number_59 : decode cX6_number 59 = .ok (.imul, 1) := by decide +kernel
theorem dX6_number_60 : decode cX6_number 60 = .ok (.aload_n 0, 1) := by decide +kernel
theorem dX6_number_61 : decode cX6_number 61 = .ok (.getfield 34, 3) := by decide +kernel
theorem dX6_number_64 : decode cX6_number 64 = .ok (.iload 5, 2) := by decide +kernel
theorem dX6_number_66 : decode cX6_number 66 = .ok (.iaload, 1) := by decide +kernel
theorem dX6_number_67 : decode cX6_number 67 = .ok (.iadd, 1) := by decide +kernel
theorem dX6_number_68 : decode cX6_number 68 = .ok (.bipush 48, 2) := by decide +kernel
theorem dX6_number_70 : decode cX6_number 70 = .ok (.isub, 1) := by decide +kernel
theorem dX6_number_71 : decode cX6_number 71 = .ok (.istore 4, 2) := by decide +kernel
theorem dX6_number_73 : decode cX6_number 73 = .ok (.iinc 5 1, 3) := by decide +kernel
theorem dX6_number_76 : decode cX6_number 76 = .ok (.goto (-47), 3) := by decide +kernel
theorem dX6_number_79 : decode cX6_number 79 = .ok (.aload_n 0, 1) := by decide +kernel
theorem dX6_number_80 : decode cX6_number 80 = .ok (.iload 4, 2) := by decide +kernel
theorem dX6_number_82 : decode cX6_number 82 = .ok (.putfield 256, 3) := by decide +kernel
theorem dX6_number_85 : decode cX6_number 85 = .ok (.aload_n 0, 1) := by decide +kernel
theorem dX6_number_86 : decode cX6_number 86 = .ok (.iload_n 3, 1) := by decide +kernel
theorem dX6_number_87 : decode cX6_number 87 = .ok (.ifCond .eq 20, 3) := by decide +kernel
theorem dX6_number_90 : decode cX6_number 90 = .ok (.iload 4, 2) := by decide +kernel
theorem dX6_number_92 : decode cX6_number 92 = .ok (.i2l, 1) := by decide +kernel
theorem dX6_number_93 : decode cX6_number 93 = .ok (.iload_n 1, 1) := by decide +kernel
theorem dX6_number_94 : decode cX6_number 94 = .ok (.i2l, 1) := by decide +kernel
theorem dX6_number_95 : decode cX6_number 95 = .ok (.iload_n 2, 1) := by decide +kernel
theorem dX6_number_96 : decode cX6_number 96 = .ok (.i2l, 1) := by decide +kernel
theorem dX6_number_97 : decode cX6_number 97 = .ok (.invokestatic 52, 3) := by decide +kernel
theorem dX6_number_100 : decode cX6_number 100 = .ok (.ifCond .eq 7, 3) := by decide +kernel
theorem dX6_number_103 : decode cX6_number 103 = .ok (.iconst 1, 1) := by decide +kernel
theorem dX6_number_104 : decode cX6_number 104 = .ok (.goto 4, 3) := by decide +kernel
theorem dX6_number_107 : decode cX6_number 107 = .ok (.iconst 0, 1) := by decide +kernel
theorem dX6_number_108 : decode cX6_number 108 = .ok (.invokevirtual 259, 3) := by decide +kernel
theorem dX6_number_111 : decode cX6_number 111 = .ok (.return_, 1) := by decide +kernel
theorem dX6_kindHere_0 : decode cX6_kindHere 0 = .ok (.aload_n 0, 1) := by decide +kernel
theorem dX6_kindHere_1 : decode cX6_kindHere 1 = .ok (.invokevirtual 263, 3) := by decide +kernel
theorem dX6_kindHere_4 : decode cX6_kindHere 4 = .ok (.lstore_n 1, 1) := by decide +kernel
theorem dX6_kindHere_5 : decode cX6_kindHere 5 = .ok (.lload_n 1, 1) := by decide +kernel
theorem dX6_kindHere_6 : decode cX6_kindHere 6 = .ok (.ldc2_w 267, 3) := by decide +kernel
theorem dX6_kindHere_9 : decode cX6_kindHere 9 = .ok (.lcmp, 1) := by decide +kernel
theorem dX6_kindHere_10 : decode cX6_kindHere 10 = .ok (.ifCond .ne 7, 3) := by decide +kernel
theorem dX6_kindHere_13 : decode cX6_kindHere 13 = .ok (.iconst 0, 1) := by decide +kernel
theorem dX6_kindHere_14 : decode cX6_kindHere 14 = .ok (.goto 77, 3) := by decide +kernel
theorem dX6_kindHere_17 : decode cX6_kindHere 17 = .ok (.lload_n 1, 1) := by decide +kernel
theorem dX6_kindHere_18 : decode cX6_kindHere 18 = .ok (.ldc2_w 269, 3) := by decide +kernel
theorem dX6_kindHere_21 : decode cX6_kindHere 21 = .ok (.lcmp, 1) := by decide +kernel
theorem dX6_kindHere_22 : decode cX6_kindHere 22 = .ok (.ifCond .ne 7, 3) := by decide +kernel
theorem dX6_kindHere_25 : decode cX6_kindHere 25 = .ok (.iconst 1, 1) := by decide +kernel
theorem dX6_kindHere_26 : decode cX6_kindHere 26 = .ok (.goto 65, 3) := by decide +kernel
theorem dX6_kindHere_29 : decode cX6_kindHere 29 = .ok (.lload_n 1, 1) := by decide +kernel
theorem dX6_kindHere_30 : decode cX6_kindHere 30 = .ok (.ldc2_w 271, 3) := by decide +kernel
theorem dX6_kindHere_33 : decode cX6_kindHere 33 = .ok (.lcmp, 1) := by decide +kernel
theorem dX6_kindHere_34 : decode cX6_kindHere 34 = .ok (.ifCond .ne 7, 3) := by decide +kernel
theorem dX6_kindHere_37 : decode cX6_kindHere 37 = .ok (.iconst 2, 1) := by decide +kernel
theorem dX6_kindHere_38 : decode cX6_kindHere 38 = .ok (.goto 53, 3) := by decide +kernel
theorem dX6_kindHere_41 : decode cX6_kindHere 41 = .ok (.lload_n 1, 1) := by decide +kernel
theorem dX6_kindHere_42 : decode cX6_kindHere 42 = .ok (.ldc2_w 273, 3) := by decide +kernel
theorem dX6_kindHere_45 : decode cX6_kindHere 45 = .ok (.lcmp, 1) := by decide +kernel
theorem dX6_kindHere_46 : decode cX6_kindHere 46 = .ok (.ifCond .ne 7, 3) := by decide +kernel
theorem dX6_kindHere_49 : decode cX6_kindHere 49 = .ok (.iconst 3, 1) := by decide +kernel
theorem dX6_kindHere_50 : decode cX6_kindHere 50 = .ok (.goto 41, 3) := by decide +kernel
theorem dX6_kindHere_53 : decode cX6_kindHere 53 = .ok (.lload_n 1, 1) := by decide +kernel
theorem dX6_kindHere_54 : decode cX6_kindHere 54 = .ok (.ldc2_w 275, 3) := by decide +kernel
theorem dX6_kindHere_57 : decode cX6_kindHere 57 = .ok (.lcmp, 1) := by decide +kernel
theorem dX6_kindHere_58 : decode cX6_kindHere 58 = .ok (.ifCond .ne 7, 3) := by decide +kernel
theorem dX6_kindHere_61 : decode cX6_kindHere 61 = .ok (.iconst 4, 1) := by decide +kernel
theorem dX6_kindHere_62 : decode cX6_kindHere 62 = .ok (.goto 29, 3) := by decide +kernel
theorem dX6_kindHere_65 : decode cX6_kindHere 65 = .ok (.lload_n 1, 1) := by decide +kernel
theorem dX6_kindHere_66 : decode cX6_kindHere 66 = .ok (.ldc2_w 277, 3) := by decide +kernel
theorem dX6_kindHere_69 : decode cX6_kindHere 69 = .ok (.lcmp, 1) := by decide +kernel
theorem dX6_kindHere_70 : decode cX6_kindHere 70 = .ok (.ifCond .ne 7, 3) := by decide +kernel
theorem dX6_kindHere_73 : decode cX6_kindHere 73 = .ok (.iconst 5, 1) := by decide +kernel
theorem dX6_kindHere_74 : decode cX6_kindHere 74 = .ok (.goto 17, 3) := by decide +kernel
theorem dX6_kindHere_77 : decode cX6_kindHere 77 = .ok (.lload_n 1, 1) := by decide +kernel
theorem dX6_kindHere_78 : decode cX6_kindHere 78 = .ok (.ldc2_w 279, 3) := by decide +kernel
theorem dX6_kindHere_81 : decode cX6_kindHere 81 = .ok (.lcmp, 1) := by decide +kernel
theorem dX6_kindHere_82 : decode cX6_kindHere 82 = .ok (.ifCond .ne 8, 3) := by decide +kernel
theorem dX6_kindHere_85 : decode cX6_kindHere 85 = .ok (.bipush 6, 2) := by decide +kernel
theorem dX6_kindHere_87 : decode cX6_kindHere 87 = .ok (.goto 4, 3) := by decide +kernel
theorem dX6_kindHere_90 : decode cX6_kindHere 90 = .ok (.iconst (-1), 1) := by decide +kernel
theorem dX6_kindHere_91 : decode cX6_kindHere 91 = .ok (.ireturn, 1) := by decide +kernel
theorem dX6_isHere_0 : decode cX6_isHere 0 = .ok (.aload_n 0, 1) := by decide +kernel
theorem dX6_isHere_1 : decode cX6_isHere 1 = .ok (.getfield 245, 3) := by decide +kernel
theorem dX6_isHere_4 : decode cX6_isHere 4 = .ok (.ifCond .ne 19, 3) := by decide +kernel
theorem dX6_isHere_7 : decode cX6_isHere 7 = .ok (.aload_n 0, 1) := by decide +kernel
theorem dX6_isHere_8 : decode cX6_isHere 8 = .ok (.aload_n 0, 1) := by decide +kernel
theorem dX6_isHere_9 : decode cX6_isHere 9 = .ok (.getfield 233, 3) := by decide +kernel
theorem dX6_isHere_12 : decode cX6_isHere 12 = .ok (.invokevirtual 236, 3) := by decide +kernel
theorem dX6_isHere_15 : decode cX6_isHere 15 = .ok (.iload_n 1, 1) := by decide +kernel
theorem dX6_isHere_16 : decode cX6_isHere 16 = .ok (.if_icmp .ne 7, 3) := by decide +kernel
theorem dX6_isHere_19 : decode cX6_isHere 19 = .ok (.iconst 1, 1) := by decide +kernel
theorem dX6_isHere_20 : decode cX6_isHere 20 = .ok (.goto 4, 3) := by decide +kernel
theorem dX6_isHere_23 : decode cX6_isHere 23 = .ok (.iconst 0, 1) := by decide +kernel
theorem dX6_isHere_24 : decode cX6_isHere 24 = .ok (.ireturn, 1) := by decide +kernel
theorem dX6_viewHere_0 : decode cX6_viewHere 0 = .ok (.aload_n 0, 1) := by decide +kernel
theorem dX6_viewHere_1 : decode cX6_viewHere 1 = .ok (.bipush 45, 2) := by decide +kernel
theorem dX6_viewHere_3 : decode cX6_viewHere 3 = .ok (.invokevirtual 281, 3) := by decide +kernel
theorem dX6_viewHere_6 : decode cX6_viewHere 6 = .ok (.istore_n 1, 1) := by decide +kernel
theorem dX6_viewHere_7 : decode cX6_viewHere 7 = .ok (.iload_n 1, 1) := by decide +kernel
theorem dX6_viewHere_8 : decode cX6_viewHere 8 = .ok (.ifCond .eq 8, 3) := by decide +kernel
theorem dX6_viewHere_11 : decode cX6_viewHere 11 = .ok (.aload_n 0, 1) := by decide +kernel
theorem dX6_viewHere_12 : decode cX6_viewHere 12 = .ok (.iconst 1, 1) := by decide +kernel
theorem dX6_viewHere_13 : decode cX6_viewHere 13 = .ok (.invokevirtual 259, 3) := by decide +kernel
theorem dX6_viewHere_16 : decode cX6_viewHere 16 = .ok (.aload_n 0, 1) := by decide +kernel
theorem dX6_viewHere_17 : decode cX6_viewHere 17 = .ok (.iconst 0, 1) := by decide +kernel
theorem dX6_viewHere_18 : decode cX6_viewHere 18 = .ok (.bipush 9, 2) := by decide +kernel
theorem dX6_viewHere_20 : decode cX6_viewHere 20 = .ok (.invokevirtual 284, 3) := by decide +kernel
theorem dX6_viewHere_23 : decode cX6_viewHere 23 = .ok (.iload_n 1, 1) := by decide +kernel
theorem dX6_viewHere_24 : decode cX6_viewHere 24 = .ok (.ifCond .eq 11, 3) := by decide +kernel
theorem dX6_viewHere_27 : decode cX6_viewHere 27 = .ok (.aload_n 0, 1) := by decide +kernel
theorem dX6_viewHere_28 : decode cX6_viewHere 28 = .ok (.getfield 256, 3) := by decide +kernel
theorem dX6_viewHere_31 : decode cX6_viewHere 31 = .ok (.ineg, 1) := by decide +kernel
theorem dX6_viewHere_32 : decode cX6_viewHere 32 = .ok (.goto 7, 3) := by decide +kernel
theorem dX6_viewHere_35 : decode cX6_viewHere 35 = .ok (.aload_n 0, 1) := by decide +kernel
theorem dX6_viewHere_36 : decode cX6_viewHere 36 = .ok (.getfield 256, 3) := by decide +kernel
theorem dX6_viewHere_39 : decode cX6_viewHere 39 = .ok (.ireturn, 1) := by decide +kernel
theorem dX6_personItem_0 : decode cX6_personItem 0 = .ok (.aload_n 0, 1) := by decide +kernel
theorem dX6_personItem_1 : decode cX6_personItem 1 = .ok (.aload_n 0, 1) := by decide +kernel
theorem dX6_personItem_2 : decode cX6_personItem 2 = .ok (.getfield 7, 3) := by decide +kernel
theorem dX6_personItem_5 : decode cX6_personItem 5 = .ok (.iconst 1, 1) := by decide +kernel
theorem dX6_personItem_6 : decode cX6_personItem 6 = .ok (.iaload, 1) := by decide +kernel
theorem dX6_personItem_7 : decode cX6_personItem 7 = .ok (.bipush 8, 2) := by decide +kernel
theorem dX6_personItem_9 : decode cX6_personItem 9 = .ok (.if_icmp .ge 7, 3) := by decide +kernel
theorem dX6_personItem_12 : decode cX6_personItem 12 = .ok (.iconst 1, 1) := by decide +kernel
theorem dX6_personItem_13 : decode cX6_personItem 13 = .ok (.goto 4, 3) := by decide +kernel
theorem dX6_personItem_16 : decode cX6_personItem 16 = .ok (.iconst 0, 1) := by decide +kernel
theorem dX6_personItem_17 : decode cX6_personItem 17 = .ok (.invokevirtual 259, 3) := by decide +kernel
theorem dX6_personItem_20 : decode cX6_personItem 20 = .ok (.aload_n 0, 1) := by decide +kernel
theorem dX6_personItem_21 : decode cX6_personItem 21 = .ok (.getfield 245, 3) := by decide +kernel
theorem dX6_personItem_24 : decode cX6_personItem 24 = .ok (.ifCond .eq 4, 3) := by decide +kernel
theorem dX6_personItem_27 : decode cX6_personItem 27 = .ok (.return_, 1) := by decide +kernel
theorem dX6_personItem_28 : decode cX6_personItem 28 = .ok (.aload_n 0, 1) := by decide +kernel
theorem dX6_personItem_29 : decode cX6_personItem 29 = .ok (.iload_n 1, 1) := by decide +kernel
theorem dX6_personItem_30 : decode cX6_personItem 30 = .ok (.invokevirtual 78, 3) := by decide +kernel
theorem dX6_personItem_33 : decode cX6_personItem 33 = .ok (.istore_n 2, 1) := by decide +kernel
theorem dX6_personItem_34 : decode cX6_personItem 34 = .ok (.aload_n 0, 1) := by decide +kernel
theorem dX6_personItem_35 : decode cX6_personItem 35 = .ok (.invokevirtual 263, 3) := by decide +kernel
theorem dX6_personItem_38 : decode cX6_personItem 38 = .ok (.ldc2_w 287, 3) := by decide +kernel
theorem dX6_personItem_41 : decode cX6_personItem 41 = .ok (.lcmp, 1) := by decide +kernel
theorem dX6_personItem_42 : decode cX6_personItem 42 = .ok (.ifCond .ne 40, 3) := by decide +kernel
theorem dX6_personItem_45 : decode cX6_personItem 45 = .ok (.aload_n 0, 1) := by decide +kernel
theorem dX6_personItem_46 : decode cX6_personItem 46 = .ok (.iconst 1, 1) := by decide +kernel
theorem dX6_personItem_47 : decode cX6_personItem 47 = .ok (.invokevirtual 259, 3) := by decide +kernel
theorem dX6_personItem_50 : decode cX6_personItem 50 = .ok (.aload_n 0, 1) := by decide +kernel
theorem dX6_personItem_51 : decode cX6_personItem 51 = .ok (.iconst 0, 1) := by decide +kernel
theorem dX6_personItem_52 : decode cX6_personItem 52 = .ok (.bipush 9, 2) := by decide +kernel
theorem dX6_personItem_54 : decode cX6_personItem 54 = .ok (.invokevirtual 284, 3) := by decide +kernel
theorem dX6_personItem_57 : decode cX6_personItem 57 = .ok (.aload_n 0, 1) := by decide +kernel
theorem dX6_personItem_58 : decode cX6_personItem 58 = .ok (.getfield 7, 3) := by decide +kernel
theorem dX6_personItem_61 : decode cX6_personItem 61 = .ok (.iload_n 2, 1) := by decide +kernel
theorem dX6_personItem_62 : decode cX6_personItem 62 = .ok (.iconst 1, 1) := by decide +kernel
theorem dX6_personItem_63 : decode cX6_personItem 63 = .ok (.invokestatic 66, 3) := by decide +kernel
theorem dX6_personItem_66 : decode cX6_personItem 66 = .ok (.aload_n 0, 1) := by decide +kernel
theorem dX6_personItem_67 : decode cX6_personItem 67 = .ok (.getfield 245, 3) := by decide +kernel
theorem dX6_personItem_70 : decode cX6_personItem 70 = .ok (.ifCond .eq 7, 3) := by decide +kernel
theorem dX6_personItem_73 : decode cX6_personItem 73 = .ok (.iconst 3, 1) := by decide +kernel
theorem dX6_personItem_74 : decode cX6_personItem 74 = .ok (.goto 7, 3) := by decide +kernel
theorem dX6_personItem_77 : decode cX6_personItem 77 = .ok (.aload_n 0, 1) := by decide +kernel
theorem dX6_personItem_78 : decode cX6_personItem 78 = .ok (.getfield 256, 3) := by decide +kernel
theorem dX6_personItem_81 : decode cX6_personItem 81 = .ok (.iastore, 1) := by decide +kernel
theorem dX6_personItem_82 : decode cX6_personItem 82 = .ok (.aload_n 0, 1) := by decide +kernel
theorem dX6_personItem_83 : decode cX6_personItem 83 = .ok (.invokevirtual 263, 3) := by decide +kernel
theorem dX6_personItem_86 : decode cX6_personItem 86 = .ok (.ldc2_w 289, 3) := by decide +kernel
theorem dX6_personItem_89 : decode cX6_personItem 89 = .ok (.lcmp, 1) := by decide +kernel
theorem dX6_personItem_90 : decode cX6_personItem 90 = .ok (.ifCond .ne 80, 3) := by decide +kernel
theorem dX6_personItem_93 : decode cX6_personItem 93 = .ok (.aload_n 0, 1) := by decide +kernel
theorem dX6_personItem_94 : decode cX6_personItem 94 = .ok (.iconst 1, 1) := by decide +kernel
theorem dX6_personItem_95 : decode cX6_personItem 95 = .ok (.invokevirtual 259, 3) := by decide +kernel
theorem dX6_personItem_98 : decode cX6_personItem 98 = .ok (.iconst 0, 1) := by decide +kernel
theorem dX6_personItem_99 : decode cX6_personItem 99 = .ok (.istore_n 3, 1) := by decide +kernel
theorem dX6_personItem_100 : decode cX6_personItem 100 = .ok (.aload_n 0, 1) := by decide +kernel
theorem dX6_personItem_101 : decode cX6_personItem 101 = .ok (.invokevirtual 291, 3) := by decide +kernel
theorem dX6_personItem_104 : decode cX6_personItem 104 = .ok (.istore 4, 2) := by decide +kernel
theorem dX6_personItem_106 : decode cX6_personItem 106 = .ok (.aload_n 0, 1) := by decide +kernel
theorem dX6_personItem_107 : decode cX6_personItem 107 = .ok (.getfield 7, 3) := by decide +kernel
theorem dX6_personItem_110 : decode cX6_personItem 110 = .ok (.iload_n 2, 1) := by decide +kernel
theorem dX6_personItem_111 : decode cX6_personItem 111 = .ok (.iconst 2, 1) := by decide +kernel
theorem dX6_personItem_112 : decode cX6_personItem 112 = .ok (.iload_n 3, 1) := by decide +kernel
theorem dX6_personItem_113 : decode cX6_personItem 113 = .ok (.iadd, 1) := by decide +kernel
theorem dX6_personItem_114 : decode cX6_personItem 114 = .ok (.invokestatic 66, 3) := by decide +kernel
theorem dX6_personItem_117 : decode cX6_personItem 117 = .ok (.aload_n 0, 1) := by decide +kernel
theorem dX6_personItem_118 : decode cX6_personItem 118 = .ok (.getfield 245, 3) := by decide +kernel
theorem dX6_personItem_121 : decode cX6_personItem 121 = .ok (.ifCond .eq 7, 3) := by decide +kernel
theorem dX6_personItem_124 : decode cX6_personItem 124 = .ok (.iconst 0, 1) := by decide +kernel
theorem dX6_personItem_125 : decode cX6_personItem 125 = .ok (.goto 5, 3) := by decide +kernel
theorem dX6_personItem_128 : decode cX6_personItem 128 = .ok (.iload 4, 2) := by decide +kernel
theorem dX6_personItem_130 : decode cX6_personItem 130 = .ok (.iastore, 1) := by decide +kernel
theorem dX6_personItem_131 : decode cX6_personItem 131 = .ok (.iinc 3 1, 3) := by decide +kernel
theorem dX6_personItem_134 : decode cX6_personItem 134 = .ok (.iload_n 3, 1) := by decide +kernel
theorem dX6_personItem_135 : decode cX6_personItem 135 = .ok (.bipush 6, 2) := by decide +kernel
theorem dX6_personItem_137 : decode cX6_personItem 137 = .ok (.if_icmp .ge 33, 3) := by decide +kernel
theorem dX6_personItem_140 : decode cX6_personItem 140 = .ok (.aload_n 0, 1) := by decide +kernel
theorem dX6_personItem_141 : decode cX6_personItem 141 = .ok (.getfield 245, 3) := by decide +kernel
theorem dX6_personItem_144 : decode cX6_personItem 144 = .ok (.ifCond .ne 26, 3) := by decide +kernel
theorem dX6_personItem_147 : decode cX6_personItem 147 = .ok (.aload_n 0, 1) := by decide +kernel
theorem dX6_personItem_148 : decode cX6_personItem 148 = .ok (.bipush 45, 2) := by decide +kernel
theorem dX6_personItem_150 : decode cX6_personItem 150 = .ok (.invokevirtual 281, 3) := by decide +kernel
theorem dX6_personItem_153 : decode cX6_personItem 153 = .ok (.ifCond .ne (-53), 3) := by decide +kernel
theorem dX6_personItem_156 : decode cX6_personItem 156 = .ok (.aload_n 0, 1) := by decide +kernel
theorem dX6_personItem_157 : decode cX6_personItem 157 = .ok (.aload_n 0, 1) := by decide +kernel
theorem dX6_personItem_158 : decode cX6_personItem 158 = .ok (.getfield 233, 3) := by decide +kernel
theorem dX6_personItem_161 : decode cX6_personItem 161 = .ok (.invokevirtual 236, 3) := by decide +kernel
theorem dX6_personItem_164 : decode cX6_personItem 164 = .ok (.invokestatic 242, 3) := by decide +kernel
theorem dX6_personItem_167 : decode cX6_personItem 167 = .ok (.ifCond .ne (-67), 3) := by decide +kernel
theorem dX6_personItem_170 : decode cX6_personItem 170 = .ok (.return_, 1) := by decide +kernel
theorem dX6_pairItem_0 : decode cX6_pairItem 0 = .ok (.aload_n 0, 1) := by decide +kernel
theorem dX6_pairItem_1 : decode cX6_pairItem 1 = .ok (.iconst 1, 1) := by decide +kernel
theorem dX6_pairItem_2 : decode cX6_pairItem 2 = .ok (.invokevirtual 259, 3) := by decide +kernel
theorem dX6_pairItem_5 : decode cX6_pairItem 5 = .ok (.aload_n 0, 1) := by decide +kernel
theorem dX6_pairItem_6 : decode cX6_pairItem 6 = .ok (.iconst 0, 1) := by decide +kernel
theorem dX6_pairItem_7 : decode cX6_pairItem 7 = .ok (.aload_n 0, 1) := by decide +kernel
theorem dX6_pairItem_8 : decode cX6_pairItem 8 = .ok (.getfield 7, 3) := by decide +kernel
theorem dX6_pairItem_11 : decode cX6_pairItem 11 = .ok (.iconst 1, 1) := by decide +kernel
theorem dX6_pairItem_12 : decode cX6_pairItem 12 = .ok (.iaload, 1) := by decide +kernel
theorem dX6_pairItem_13 : decode cX6_pairItem 13 = .ok (.iconst 1, 1) := by decide +kernel
theorem dX6_pairItem_14 : decode cX6_pairItem 14 = .ok (.isub, 1) := by decide +kernel
theorem dX6_pairItem_15 : decode cX6_pairItem 15 = .ok (.invokevirtual 284, 3) := by decide +kernel
theorem dX6_pairItem_18 : decode cX6_pairItem 18 = .ok (.aload_n 0, 1) := by decide +kernel
theorem dX6_pairItem_19 : decode cX6_pairItem 19 = .ok (.getfield 256, 3) := by decide +kernel
theorem dX6_pairItem_22 : decode cX6_pairItem 22 = .ok (.istore_n 1, 1) := by decide +kernel
theorem dX6_pairItem_23 : decode cX6_pairItem 23 = .ok (.aload_n 0, 1) := by decide +kernel
theorem dX6_pairItem_24 : decode cX6_pairItem 24 = .ok (.aload_n 0, 1) := by decide +kernel
theorem dX6_pairItem_25 : decode cX6_pairItem 25 = .ok (.getfield 233, 3) := by decide +kernel
theorem dX6_pairItem_28 : decode cX6_pairItem 28 = .ok (.invokevirtual 236, 3) := by decide +kernel
theorem dX6_pairItem_31 : decode cX6_pairItem 31 = .ok (.invokestatic 242, 3) := by decide +kernel
theorem dX6_pairItem_34 : decode cX6_pairItem 34 = .ok (.ifCond .eq 14, 3) := by decide +kernel
theorem dX6_pairItem_37 : decode cX6_pairItem 37 = .ok (.aload_n 0, 1) := by decide +kernel
theorem dX6_pairItem_38 : decode cX6_pairItem 38 = .ok (.getfield 245, 3) := by decide +kernel
theorem dX6_pairItem_41 : decode cX6_pairItem 41 = .ok (.ifCond .ne 7, 3) := by decide +kernel
theorem dX6_pairItem_44 : decode cX6_pairItem 44 = .ok (.iconst 1, 1) := by decide +kernel
theorem dX6_pairItem_45 : decode cX6_pairItem 45 = .ok (.goto 4, 3) := by decide +kernel
theorem dX6_pairItem_48 : decode cX6_pairItem 48 = .ok (.iconst 0, 1) := by decide +kernel
theorem dX6_pairItem_49 : decode cX6_pairItem 49 = .ok (.istore_n 2, 1) := by decide +kernel
theorem dX6_pairItem_50 : decode cX6_pairItem 50 = .ok (.iload_n 2, 1) := by decide +kernel
theorem dX6_pairItem_51 : decode cX6_pairItem 51 = .ok (.ifCond .eq 10, 3) := by decide +kernel
theorem dX6_pairItem_54 : decode cX6_pairItem 54 = .ok (.aload_n 0, 1) := by decide +kernel
theorem dX6_pairItem_55 : decode cX6_pairItem 55 = .ok (.invokevirtual 294, 3) := by decide +kernel
theorem dX6_pairItem_58 : decode cX6_pairItem 58 = .ok (.goto 4, 3) := by decide +kernel
theorem dX6_pairItem_61 : decode cX6_pairItem 61 = .ok (.iconst (-1), 1) := by decide +kernel
theorem dX6_pairItem_62 : decode cX6_pairItem 62 = .ok (.istore_n 3, 1) := by decide +kernel
theorem dX6_pairItem_63 : decode cX6_pairItem 63 = .ok (.aload_n 0, 1) := by decide +kernel
theorem dX6_pairItem_64 : decode cX6_pairItem 64 = .ok (.iload_n 2, 1) := by decide +kernel
theorem dX6_pairItem_65 : decode cX6_pairItem 65 = .ok (.ifCond .eq 20, 3) := by decide +kernel
theorem dX6_pairItem_68 : decode cX6_pairItem 68 = .ok (.aload_n 0, 1) := by decide +kernel
theorem dX6_pairItem_69 : decode cX6_pairItem 69 = .ok (.iload_n 3, 1) := by decide +kernel
theorem dX6_pairItem_70 : decode cX6_pairItem 70 = .ok (.invokevirtual 56, 3) := by decide +kernel
theorem dX6_pairItem_73 : decode cX6_pairItem 73 = .ok (.ifCond .eq 12, 3) := by decide +kernel
theorem dX6_pairItem_76 : decode cX6_pairItem 76 = .ok (.iload_n 3, 1) := by decide +kernel
theorem dX6_pairItem_77 : decode cX6_pairItem 77 = .ok (.iload_n 1, 1) := by decide +kernel
theorem dX6_pairItem_78 : decode cX6_pairItem 78 = .ok (.if_icmp .eq 7, 3) := by decide +kernel
theorem dX6_pairItem_81 : decode cX6_pairItem 81 = .ok (.iconst 1, 1) := by decide +kernel
theorem dX6_pairItem_82 : decode cX6_pairItem 82 = .ok (.goto 4, 3) := by decide +kernel
theorem dX6_pairItem_85 : decode cX6_pairItem 85 = .ok (.iconst 0, 1) := by decide +kernel
theorem dX6_pairItem_86 : decode cX6_pairItem 86 = .ok (.invokevirtual 259, 3) := by decide +kernel
theorem dX6_pairItem_89 : decode cX6_pairItem 89 = .ok (.aload_n 0, 1) := by decide +kernel
theorem dX6_pairItem_90 : decode cX6_pairItem 90 = .ok (.getfield 245, 3) := by decide +kernel
theorem dX6_pairItem_93 : decode cX6_pairItem 93 = .ok (.ifCond .ne 18, 3) := by decide +kernel
theorem dX6_pairItem_96 : decode cX6_pairItem 96 = .ok (.aload_n 0, 1) := by decide +kernel
theorem dX6_pairItem_97 : decode cX6_pairItem 97 = .ok (.getfield 7, 3) := by decide +kernel
theorem dX6_pairItem_100 : decode cX6_pairItem 100 = .ok (.iconst 5, 1) := by decide +kernel
theorem dX6_pairItem_101 : decode cX6_pairItem 101 = .ok (.iload_n 1, 1) := by decide +kernel
theorem dX6_pairItem_102 : decode cX6_pairItem 102 = .ok (.iastore, 1) := by decide +kernel
theorem dX6_pairItem_103 : decode cX6_pairItem 103 = .ok (.aload_n 0, 1) := by decide +kernel
theorem dX6_pairItem_104 : decode cX6_pairItem 104 = .ok (.getfield 7, 3) := by decide +kernel
theorem dX6_pairItem_107 : decode cX6_pairItem 107 = .ok (.bipush 6, 2) := by decide +kernel
theorem dX6_pairItem_109 : decode cX6_pairItem 109 = .ok (.iload_n 3, 1) := by decide +kernel
theorem dX6_pairItem_110 : decode cX6_pairItem 110 = .ok (.iastore, 1) := by decide +kernel
theorem dX6_pairItem_111 : decode cX6_pairItem 111 = .ok (.return_, 1) := by decide +kernel
theorem dX6_peeked_0 : decode cX6_peeked 0 = .ok (.iconst 0, 1) := by decide +kernel
theorem dX6_peeked_1 : decode cX6_peeked 1 = .ok (.istore_n 1, 1) := by decide +kernel
theorem dX6_peeked_2 : decode cX6_peeked 2 = .ok (.aload_n 0, 1) := by decide +kernel
theorem dX6_peeked_3 : decode cX6_peeked 3 = .ok (.getfield 233, 3) := by decide +kernel
theorem dX6_peeked_6 : decode cX6_peeked 6 = .ok (.istore_n 2, 1) := by decide +kernel
theorem dX6_peeked_7 : decode cX6_peeked 7 = .ok (.iload_n 2, 1) := by decide +kernel
theorem dX6_peeked_8 : decode cX6_peeked 8 = .ok (.aload_n 0, 1) := by decide +kernel
theorem dX6_peeked_9 : decode cX6_peeked 9 = .ok (.getfield 230, 3) := by decide +kernel
theorem dX6_peeked_12 : decode cX6_peeked 12 = .ok (.if_icmp .ge 36, 3) := by decide +kernel
theorem dX6_peeked_15 : decode cX6_peeked 15 = .ok (.iload_n 1, 1) := by decide +kernel
theorem dX6_peeked_16 : decode cX6_peeked 16 = .ok (.bipush 99, 2) := by decide +kernel
theorem dX6_peeked_18 : decode cX6_peeked 18 = .ok (.if_icmp .le 9, 3) := by decide +kernel
theorem dX6_peeked_21 : decode cX6_peeked 21 = .ok (.sipush 1000, 3) := by decide +kernel
theorem dX6_peeked_24 : decode cX6_peeked 24 = .ok (.goto 17, 3) := by decide +kernel
theorem dX6_peeked_27 : decode cX6_peeked 27 = .ok (.bipush 10, 2) := by decide +kernel
theorem dX6_peeked_29 : decode cX6_peeked 29 = .ok (.iload_n 1, 1) := by decide +kernel
theorem dX6_peeked_30 : decode cX6_peeked 30 = .ok (.imul, 1) := by decide +kernel
theorem dX6_peeked_31 : decode cX6_peeked 31 = .ok (.aload_n 0, 1) := by decide +kernel
theorem dX6_peeked_32 : decode cX6_peeked 32 = .ok (.getfield 34, 3) := by decide +kernel
theorem dX6_peeked_35 : decode cX6_peeked 35 = .ok (.iload_n 2, 1) := by decide +kernel
theorem dX6_peeked_36 : decode cX6_peeked 36 = .ok (.iaload, 1) := by decide +kernel
theorem dX6_peeked_37 : decode cX6_peeked 37 = .ok (.iadd, 1) := by decide +kernel
theorem dX6_peeked_38 : decode cX6_peeked 38 = .ok (.bipush 48, 2) := by decide +kernel
theorem dX6_peeked_40 : decode cX6_peeked 40 = .ok (.isub, 1) := by decide +kernel
theorem dX6_peeked_41 : decode cX6_peeked 41 = .ok (.istore_n 1, 1) := by decide +kernel
theorem dX6_peeked_42 : decode cX6_peeked 42 = .ok (.iinc 2 1, 3) := by decide +kernel
theorem dX6_peeked_45 : decode cX6_peeked 45 = .ok (.goto (-38), 3) := by decide +kernel
theorem dX6_peeked_48 : decode cX6_peeked 48 = .ok (.iload_n 1, 1) := by decide +kernel
theorem dX6_peeked_49 : decode cX6_peeked 49 = .ok (.ireturn, 1) := by decide +kernel
theorem dX6_item_0 : decode cX6_item 0 = .ok (.aload_n 0, 1) := by decide +kernel
theorem dX6_item_1 : decode cX6_item 1 = .ok (.invokevirtual 297, 3) := by decide +kernel
theorem dX6_item_4 : decode cX6_item 4 = .ok (.istore_n 1, 1) := by decide +kernel
theorem dX6_item_5 : decode cX6_item 5 = .ok (.aload_n 0, 1) := by decide +kernel
theorem dX6_item_6 : decode cX6_item 6 = .ok (.invokevirtual 263, 3) := by decide +kernel
theorem dX6_item_9 : decode cX6_item 9 = .ok (.lstore_n 2, 1) := by decide +kernel
theorem dX6_item_10 : decode cX6_item 10 = .ok (.iload_n 1, 1) := by decide +kernel
theorem dX6_item_11 : decode cX6_item 11 = .ok (.ifCond .lt 11, 3) := by decide +kernel
theorem dX6_item_14 : decode cX6_item 14 = .ok (.aload_n 0, 1) := by decide +kernel
theorem dX6_item_15 : decode cX6_item 15 = .ok (.iload_n 1, 1) := by decide +kernel
theorem dX6_item_16 : decode cX6_item 16 = .ok (.invokevirtual 300, 3) := by decide +kernel
theorem dX6_item_19 : decode cX6_item 19 = .ok (.goto 67, 3) := by decide +kernel
theorem dX6_item_22 : decode cX6_item 22 = .ok (.lload_n 2, 1) := by decide +kernel
theorem dX6_item_23 : decode cX6_item 23 = .ok (.ldc2_w 303, 3) := by decide +kernel
theorem dX6_item_26 : decode cX6_item 26 = .ok (.lcmp, 1) := by decide +kernel
theorem dX6_item_27 : decode cX6_item 27 = .ok (.ifCond .ne 10, 3) := by decide +kernel
theorem dX6_item_30 : decode cX6_item 30 = .ok (.aload_n 0, 1) := by decide +kernel
theorem dX6_item_31 : decode cX6_item 31 = .ok (.invokevirtual 305, 3) := by decide +kernel
theorem dX6_item_34 : decode cX6_item 34 = .ok (.goto 52, 3) := by decide +kernel
theorem dX6_item_37 : decode cX6_item 37 = .ok (.aload_n 0, 1) := by decide +kernel
theorem dX6_item_38 : decode cX6_item 38 = .ok (.lload_n 2, 1) := by decide +kernel
theorem dX6_item_39 : decode cX6_item 39 = .ok (.ldc2_w 308, 3) := by decide +kernel
theorem dX6_item_42 : decode cX6_item 42 = .ok (.lcmp, 1) := by decide +kernel
theorem dX6_item_43 : decode cX6_item 43 = .ok (.ifCond .ne 7, 3) := by decide +kernel
theorem dX6_item_46 : decode cX6_item 46 = .ok (.iconst 1, 1) := by decide +kernel
theorem dX6_item_47 : decode cX6_item 47 = .ok (.goto 4, 3) := by decide +kernel
theorem dX6_item_50 : decode cX6_item 50 = .ok (.iconst 0, 1) := by decide +kernel
theorem dX6_item_51 : decode cX6_item 51 = .ok (.invokevirtual 259, 3) := by decide +kernel
theorem dX6_item_54 : decode cX6_item 54 = .ok (.aload_n 0, 1) := by decide +kernel
theorem dX6_item_55 : decode cX6_item 55 = .ok (.iconst 0, 1) := by decide +kernel
theorem dX6_item_56 : decode cX6_item 56 = .ok (.iconst 5, 1) := by decide +kernel
theorem dX6_item_57 : decode cX6_item 57 = .ok (.invokevirtual 284, 3) := by decide +kernel
theorem dX6_item_60 : decode cX6_item 60 = .ok (.aload_n 0, 1) := by decide +kernel
theorem dX6_item_61 : decode cX6_item 61 = .ok (.getfield 7, 3) := by decide +kernel
theorem dX6_item_64 : decode cX6_item 64 = .ok (.iconst 3, 1) := by decide +kernel
theorem dX6_item_65 : decode cX6_item 65 = .ok (.aload_n 0, 1) := by decide +kernel
theorem dX6_item_66 : decode cX6_item 66 = .ok (.getfield 245, 3) := by decide +kernel
theorem dX6_item_69 : decode cX6_item 69 = .ok (.ifCond .eq 12, 3) := by decide +kernel
theorem dX6_item_72 : decode cX6_item 72 = .ok (.aload_n 0, 1) := by decide +kernel
theorem dX6_item_73 : decode cX6_item 73 = .ok (.getfield 7, 3) := by decide +kernel
theorem dX6_item_76 : decode cX6_item 76 = .ok (.iconst 3, 1) := by decide +kernel
theorem dX6_item_77 : decode cX6_item 77 = .ok (.iaload, 1) := by decide +kernel
theorem dX6_item_78 : decode cX6_item 78 = .ok (.goto 7, 3) := by decide +kernel
theorem dX6_item_81 : decode cX6_item 81 = .ok (.aload_n 0, 1) := by decide +kernel
theorem dX6_item_82 : decode cX6_item 82 = .ok (.getfield 256, 3) := by decide +kernel
theorem dX6_item_85 : decode cX6_item 85 = .ok (.iastore, 1) := by decide +kernel
theorem dX6_item_86 : decode cX6_item 86 = .ok (.return_, 1) := by decide +kernel
theorem dX6_text_0 : decode cX6_text 0 = .ok (.aload_n 0, 1) := by decide +kernel
theorem dX6_text_1 : decode cX6_text 1 = .ok (.invokevirtual 310, 3) := by decide +kernel
theorem dX6_text_4 : decode cX6_text 4 = .ok (.aload_n 0, 1) := by decide +kernel
theorem dX6_text_5 : decode cX6_text 5 = .ok (.iconst 0, 1) := by decide +kernel
theorem dX6_text_6 : decode cX6_text 6 = .ok (.putfield 245, 3) := by decide +kernel
theorem dX6_text_9 : decode cX6_text 9 = .ok (.aload_n 0, 1) := by decide +kernel
theorem dX6_text_10 : decode cX6_text 10 = .ok (.iconst 0, 1) := by decide +kernel
theorem dX6_text_11 : decode cX6_text 11 = .ok (.putfield 230, 3) := by decide +kernel
theorem dX6_text_14 : decode cX6_text 14 = .ok (.aload_n 0, 1) := by decide +kernel
theorem dX6_text_15 : decode cX6_text 15 = .ok (.invokevirtual 249, 3) := by decide +kernel
theorem dX6_text_18 : decode cX6_text 18 = .ok (.iconst 1, 1) := by decide +kernel
theorem dX6_text_19 : decode cX6_text 19 = .ok (.istore_n 1, 1) := by decide +kernel
theorem dX6_text_20 : decode cX6_text 20 = .ok (.aload_n 0, 1) := by decide +kernel
theorem dX6_text_21 : decode cX6_text 21 = .ok (.invokevirtual 313, 3) := by decide +kernel
theorem dX6_text_24 : decode cX6_text 24 = .ok (.aload_n 0, 1) := by decide +kernel
theorem dX6_text_25 : decode cX6_text 25 = .ok (.getfield 245, 3) := by decide +kernel
theorem dX6_text_28 : decode cX6_text 28 = .ok (.ifCond .ne 31, 3) := by decide +kernel
theorem dX6_text_31 : decode cX6_text 31 = .ok (.aload_n 0, 1) := by decide +kernel
theorem dX6_text_32 : decode cX6_text 32 = .ok (.aload_n 0, 1) := by decide +kernel
theorem dX6_text_33 : decode cX6_text 33 = .ok (.getfield 233, 3) := by decide +kernel
theorem dX6_text_36 : decode cX6_text 36 = .ok (.invokevirtual 236, 3) := by decide +kernel
theorem dX6_text_39 : decode cX6_text 39 = .ok (.bipush 59, 2) := by decide +kernel
theorem dX6_text_41 : decode cX6_text 41 = .ok (.if_icmp .ne 18, 3) := by decide +kernel
theorem dX6_text_44 : decode cX6_text 44 = .ok (.aload_n 0, 1) := by decide +kernel
theorem dX6_text_45 : decode cX6_text 45 = .ok (.iconst 1, 1) := by decide +kernel
theorem dX6_text_46 : decode cX6_text 46 = .ok (.invokevirtual 259, 3) := by decide +kernel
theorem dX6_text_49 : decode cX6_text 49 = .ok (.aload_n 0, 1) := by decide +kernel
theorem dX6_text_50 : decode cX6_text 50 = .ok (.invokevirtual 313, 3) := by decide +kernel
theorem dX6_text_53 : decode cX6_text 53 = .ok (.iinc 1 1, 3) := by decide +kernel
theorem dX6_text_56 : decode cX6_text 56 = .ok (.goto (-32), 3) := by decide +kernel
theorem dX6_text_59 : decode cX6_text 59 = .ok (.aload_n 0, 1) := by decide +kernel
theorem dX6_text_60 : decode cX6_text 60 = .ok (.aload_n 0, 1) := by decide +kernel
theorem dX6_text_61 : decode cX6_text 61 = .ok (.getfield 245, 3) := by decide +kernel
theorem dX6_text_64 : decode cX6_text 64 = .ok (.ifCond .ne 14, 3) := by decide +kernel
theorem dX6_text_67 : decode cX6_text 67 = .ok (.aload_n 0, 1) := by decide +kernel
theorem dX6_text_68 : decode cX6_text 68 = .ok (.getfield 233, 3) := by decide +kernel
theorem dX6_text_71 : decode cX6_text 71 = .ok (.aload_n 0, 1) := by decide +kernel
theorem dX6_text_72 : decode cX6_text 72 = .ok (.getfield 219, 3) := by decide +kernel
theorem dX6_text_75 : decode cX6_text 75 = .ok (.if_icmp .ge 7, 3) := by decide +kernel
theorem dX6_text_78 : decode cX6_text 78 = .ok (.iconst 1, 1) := by decide +kernel
theorem dX6_text_79 : decode cX6_text 79 = .ok (.goto 4, 3) := by decide +kernel
theorem dX6_text_82 : decode cX6_text 82 = .ok (.iconst 0, 1) := by decide +kernel
theorem dX6_text_83 : decode cX6_text 83 = .ok (.putfield 245, 3) := by decide +kernel
theorem dX6_text_86 : decode cX6_text 86 = .ok (.aload_n 0, 1) := by decide +kernel
theorem dX6_text_87 : decode cX6_text 87 = .ok (.getfield 245, 3) := by decide +kernel
theorem dX6_text_90 : decode cX6_text 90 = .ok (.ifCond .eq 7, 3) := by decide +kernel
theorem dX6_text_93 : decode cX6_text 93 = .ok (.aload_n 0, 1) := by decide +kernel
theorem dX6_text_94 : decode cX6_text 94 = .ok (.invokevirtual 316, 3) := by decide +kernel
theorem dX6_text_97 : decode cX6_text 97 = .ok (.aload_n 0, 1) := by decide +kernel
theorem dX6_text_98 : decode cX6_text 98 = .ok (.iconst 0, 1) := by decide +kernel
theorem dX6_text_99 : decode cX6_text 99 = .ok (.putfield 219, 3) := by decide +kernel
theorem dX6_text_102 : decode cX6_text 102 = .ok (.aload_n 0, 1) := by decide +kernel
theorem dX6_text_103 : decode cX6_text 103 = .ok (.getfield 245, 3) := by decide +kernel
theorem dX6_text_106 : decode cX6_text 106 = .ok (.ifCond .eq 12, 3) := by decide +kernel
theorem dX6_text_109 : decode cX6_text 109 = .ok (.iconst (-1), 1) := by decide +kernel
theorem dX6_text_110 : decode cX6_text 110 = .ok (.aload_n 0, 1) := by decide +kernel
theorem dX6_text_111 : decode cX6_text 111 = .ok (.getfield 233, 3) := by decide +kernel
theorem dX6_text_114 : decode cX6_text 114 = .ok (.isub, 1) := by decide +kernel
theorem dX6_text_115 : decode cX6_text 115 = .ok (.goto 4, 3) := by decide +kernel
theorem dX6_text_118 : decode cX6_text 118 = .ok (.iload_n 1, 1) := by decide +kernel
theorem dX6_text_119 : decode cX6_text 119 = .ok (.ireturn, 1) := by decide +kernel
theorem dX6_isSpot_0 : decode cX6_isSpot 0 = .ok (.iload_n 0, 1) := by decide +kernel
theorem dX6_isSpot_1 : decode cX6_isSpot 1 = .ok (.i2l, 1) := by decide +kernel
theorem dX6_isSpot_2 : decode cX6_isSpot 2 = .ok (.lconst 0, 1) := by decide +kernel
theorem dX6_isSpot_3 : decode cX6_isSpot 3 = .ok (.ldc2_w 64, 3) := by decide +kernel
theorem dX6_isSpot_6 : decode cX6_isSpot 6 = .ok (.invokestatic 52, 3) := by decide +kernel
theorem dX6_isSpot_9 : decode cX6_isSpot 9 = .ok (.ireturn, 1) := by decide +kernel
theorem dX6_hold_0 : decode cX6_hold 0 = .ok (.iload_n 1, 1) := by decide +kernel
theorem dX6_hold_1 : decode cX6_hold 1 = .ok (.invokestatic 319, 3) := by decide +kernel
theorem dX6_hold_4 : decode cX6_hold 4 = .ok (.ifCond .eq 16, 3) := by decide +kernel
theorem dX6_hold_7 : decode cX6_hold 7 = .ok (.iload_n 2, 1) := by decide +kernel
theorem dX6_hold_8 : decode cX6_hold 8 = .ok (.iconst (-1), 1) := by decide +kernel
theorem dX6_hold_9 : decode cX6_hold 9 = .ok (.if_icmp .eq 18, 3) := by decide +kernel
theorem dX6_hold_12 : decode cX6_hold 12 = .ok (.aload_n 0, 1) := by decide +kernel
theorem dX6_hold_13 : decode cX6_hold 13 = .ok (.iload_n 2, 1) := by decide +kernel
theorem dX6_hold_14 : decode cX6_hold 14 = .ok (.invokevirtual 56, 3) := by decide +kernel
theorem dX6_hold_17 : decode cX6_hold 17 = .ok (.ifCond .ne 10, 3) := by decide +kernel
theorem dX6_hold_20 : decode cX6_hold 20 = .ok (.aload_n 0, 1) := by decide +kernel
theorem dX6_hold_21 : decode cX6_hold 21 = .ok (.ldc 49, 2) := by decide +kernel
theorem dX6_hold_23 : decode cX6_hold 23 = .ok (.invokevirtual 73, 3) := by decide +kernel
theorem dX6_hold_26 : decode cX6_hold 26 = .ok (.ireturn, 1) := by decide +kernel
theorem dX6_hold_27 : decode cX6_hold 27 = .ok (.aload_n 0, 1) := by decide +kernel
theorem dX6_hold_28 : decode cX6_hold 28 = .ok (.getfield 7, 3) := by decide +kernel
theorem dX6_hold_31 : decode cX6_hold 31 = .ok (.bipush 71, 2) := by decide +kernel
theorem dX6_hold_33 : decode cX6_hold 33 = .ok (.iload_n 1, 1) := by decide +kernel
theorem dX6_hold_34 : decode cX6_hold 34 = .ok (.iadd, 1) := by decide +kernel
theorem dX6_hold_35 : decode cX6_hold 35 = .ok (.iload_n 2, 1) := by decide +kernel
theorem dX6_hold_36 : decode cX6_hold 36 = .ok (.iastore, 1) := by decide +kernel
theorem dX6_hold_37 : decode cX6_hold 37 = .ok (.iconst 1, 1) := by decide +kernel
theorem dX6_hold_38 : decode cX6_hold 38 = .ok (.ireturn, 1) := by decide +kernel
theorem dX6_above_0 : decode cX6_above 0 = .ok (.iload_n 0, 1) := by decide +kernel
theorem dX6_above_1 : decode cX6_above 1 = .ok (.bipush 6, 2) := by decide +kernel
theorem dX6_above_3 : decode cX6_above 3 = .ok (.if_icmp .ne 7, 3) := by decide +kernel
theorem dX6_above_6 : decode cX6_above 6 = .ok (.iconst 1, 1) := by decide +kernel
theorem dX6_above_7 : decode cX6_above 7 = .ok (.goto 22, 3) := by decide +kernel
theorem dX6_above_10 : decode cX6_above 10 = .ok (.iload_n 0, 1) := by decide +kernel
theorem dX6_above_11 : decode cX6_above 11 = .ok (.iconst 3, 1) := by decide +kernel
theorem dX6_above_12 : decode cX6_above 12 = .ok (.if_icmp .ne 7, 3) := by decide +kernel
theorem dX6_above_15 : decode cX6_above 15 = .ok (.iconst 2, 1) := by decide +kernel
theorem dX6_above_16 : decode cX6_above 16 = .ok (.goto 13, 3) := by decide +kernel
theorem dX6_above_19 : decode cX6_above 19 = .ok (.iload_n 0, 1) := by decide +kernel
theorem dX6_above_20 : decode cX6_above 20 = .ok (.iconst 4, 1) := by decide +kernel
theorem dX6_above_21 : decode cX6_above 21 = .ok (.if_icmp .ne 7, 3) := by decide +kernel
theorem dX6_above_24 : decode cX6_above 24 = .ok (.iconst 3, 1) := by decide +kernel
theorem dX6_above_25 : decode cX6_above 25 = .ok (.goto 4, 3) := by decide +kernel
theorem dX6_above_28 : decode cX6_above 28 = .ok (.iconst 0, 1) := by decide +kernel
theorem dX6_above_29 : decode cX6_above 29 = .ok (.ireturn, 1) := by decide +kernel
theorem dX6_as_0 : decode cX6_as 0 = .ok (.iload_n 1, 1) := by decide +kernel
theorem dX6_as_1 : decode cX6_as 1 = .ok (.invokestatic 319, 3) := by decide +kernel
theorem dX6_as_4 : decode cX6_as 4 = .ok (.ifCond .eq 10, 3) := by decide +kernel
theorem dX6_as_7 : decode cX6_as 7 = .ok (.iload_n 2, 1) := by decide +kernel
theorem dX6_as_8 : decode cX6_as 8 = .ok (.invokestatic 70, 3) := by decide +kernel
theorem dX6_as_11 : decode cX6_as 11 = .ok (.ifCond .ne 10, 3) := by decide +kernel
theorem dX6_as_14 : decode cX6_as 14 = .ok (.aload_n 0, 1) := by decide +kernel
theorem dX6_as_15 : decode cX6_as 15 = .ok (.ldc 49, 2) := by decide +kernel
theorem dX6_as_17 : decode cX6_as 17 = .ok (.invokevirtual 73, 3) := by decide +kernel
theorem dX6_as_20 : decode cX6_as 20 = .ok (.ireturn, 1) := by decide +kernel
theorem dX6_as_21 : decode cX6_as 21 = .ok (.aload_n 0, 1) := by decide +kernel
theorem dX6_as_22 : decode cX6_as 22 = .ok (.getfield 7, 3) := by decide +kernel
theorem dX6_as_25 : decode cX6_as 25 = .ok (.bipush 71, 2) := by decide +kernel
theorem dX6_as_27 : decode cX6_as 27 = .ok (.iload_n 1, 1) := by decide +kernel
theorem dX6_as_28 : decode cX6_as 28 = .ok (.iadd, 1) := by decide +kernel
theorem dX6_as_29 : decode cX6_as 29 = .ok (.iaload, 1) := by decide +kernel
theorem dX6_as_30 : decode cX6_as 30 = .ok (.istore_n 3, 1) := by decide +kernel
theorem dX6_as_31 : decode cX6_as 31 = .ok (.iload_n 3, 1) := by decide +kernel
theorem dX6_as_32 : decode cX6_as 32 = .ok (.ifCond .ge 11, 3) := by decide +kernel
theorem dX6_as_35 : decode cX6_as 35 = .ok (.aload_n 0, 1) := by decide +kernel
theorem dX6_as_36 : decode cX6_as 36 = .ok (.ldc_w 322, 3) := by decide +kernel
theorem dX6_as_39 : decode cX6_as 39 = .ok (.invokevirtual 73, 3) := by decide +kernel
theorem dX6_as_42 : decode cX6_as 42 = .ok (.ireturn, 1) := by decide +kernel
theorem dX6_as_43 : decode cX6_as 43 = .ok (.aload_n 0, 1) := by decide +kernel
theorem dX6_as_44 : decode cX6_as 44 = .ok (.iload_n 3, 1) := by decide +kernel
theorem dX6_as_45 : decode cX6_as 45 = .ok (.iconst 0, 1) := by decide +kernel
theorem dX6_as_46 : decode cX6_as 46 = .ok (.invokevirtual 83, 3) := by decide +kernel
theorem dX6_as_49 : decode cX6_as 49 = .ok (.istore 4, 2) := by decide +kernel
theorem dX6_as_51 : decode cX6_as 51 = .ok (.iload 4, 2) := by decide +kernel
theorem dX6_as_53 : decode cX6_as 53 = .ok (.iload_n 2, 1) := by decide +kernel
theorem dX6_as_54 : decode cX6_as 54 = .ok (.if_icmp .eq 18, 3) := by decide +kernel
theorem dX6_as_57 : decode cX6_as 57 = .ok (.iload 4, 2) := by decide +kernel
theorem dX6_as_59 : decode cX6_as 59 = .ok (.ifCond .eq 13, 3) := by decide +kernel
theorem dX6_as_62 : decode cX6_as 62 = .ok (.iload 4, 2) := by decide +kernel
theorem dX6_as_64 : decode cX6_as 64 = .ok (.invokestatic 323, 3) := by decide +kernel
theorem dX6_as_67 : decode cX6_as 67 = .ok (.istore 4, 2) := by decide +kernel
theorem dX6_as_69 : decode cX6_as 69 = .ok (.goto (-18), 3) := by decide +kernel
theorem dX6_as_72 : decode cX6_as 72 = .ok (.iload 4, 2) := by decide +kernel
theorem dX6_as_74 : decode cX6_as 74 = .ok (.iload_n 2, 1) := by decide +kernel
theorem dX6_as_75 : decode cX6_as 75 = .ok (.if_icmp .ne 7, 3) := by decide +kernel
theorem dX6_as_78 : decode cX6_as 78 = .ok (.iload_n 3, 1) := by decide +kernel
theorem dX6_as_79 : decode cX6_as 79 = .ok (.goto 10, 3) := by decide +kernel
theorem dX6_as_82 : decode cX6_as 82 = .ok (.aload_n 0, 1) := by decide +kernel
theorem dX6_as_83 : decode cX6_as 83 = .ok (.ldc_w 326, 3) := by decide +kernel
theorem dX6_as_86 : decode cX6_as 86 = .ok (.invokevirtual 73, 3) := by decide +kernel
theorem dX6_as_89 : decode cX6_as 89 = .ok (.ireturn, 1) := by decide +kernel
theorem dX6_isOne_0 : decode cX6_isOne 0 = .ok (.iload_n 0, 1) := by decide +kernel
theorem dX6_isOne_1 : decode cX6_isOne 1 = .ok (.i2l, 1) := by decide +kernel
theorem dX6_isOne_2 : decode cX6_isOne 2 = .ok (.lconst 0, 1) := by decide +kernel
theorem dX6_isOne_3 : decode cX6_isOne 3 = .ok (.ldc2_w 327, 3) := by decide +kernel
theorem dX6_isOne_6 : decode cX6_isOne 6 = .ok (.invokestatic 52, 3) := by decide +kernel
theorem dX6_isOne_9 : decode cX6_isOne 9 = .ok (.ireturn, 1) := by decide +kernel
theorem dX6_sheet_0 : decode cX6_sheet 0 = .ok (.iload_n 1, 1) := by decide +kernel
theorem dX6_sheet_1 : decode cX6_sheet 1 = .ok (.invokestatic 329, 3) := by decide +kernel
theorem dX6_sheet_4 : decode cX6_sheet 4 = .ok (.ifCond .eq 25, 3) := by decide +kernel
theorem dX6_sheet_7 : decode cX6_sheet 7 = .ok (.iload_n 2, 1) := by decide +kernel
theorem dX6_sheet_8 : decode cX6_sheet 8 = .ok (.ifCond .eq 28, 3) := by decide +kernel
theorem dX6_sheet_11 : decode cX6_sheet 11 = .ok (.iload_n 2, 1) := by decide +kernel
theorem dX6_sheet_12 : decode cX6_sheet 12 = .ok (.bipush 8, 2) := by decide +kernel
theorem dX6_sheet_14 : decode cX6_sheet 14 = .ok (.if_icmp .eq 22, 3) := by decide +kernel
theorem dX6_sheet_17 : decode cX6_sheet 17 = .ok (.iload_n 2, 1) := by decide +kernel
theorem dX6_sheet_18 : decode cX6_sheet 18 = .ok (.bipush 16, 2) := by decide +kernel
theorem dX6_sheet_20 : decode cX6_sheet 20 = .ok (.if_icmp .eq 16, 3) := by decide +kernel
theorem dX6_sheet_23 : decode cX6_sheet 23 = .ok (.iload_n 2, 1) := by decide +kernel
theorem dX6_sheet_24 : decode cX6_sheet 24 = .ok (.bipush 32, 2) := by decide +kernel
theorem dX6_sheet_26 : decode cX6_sheet 26 = .ok (.if_icmp .eq 10, 3) := by decide +kernel
theorem dX6_sheet_29 : decode cX6_sheet 29 = .ok (.aload_n 0, 1) := by decide +kernel
theorem dX6_sheet_30 : decode cX6_sheet 30 = .ok (.ldc 49, 2) := by decide +kernel
theorem dX6_sheet_32 : decode cX6_sheet 32 = .ok (.invokevirtual 73, 3) := by decide +kernel
theorem dX6_sheet_35 : decode cX6_sheet 35 = .ok (.ireturn, 1) := by decide +kernel
theorem dX6_sheet_36 : decode cX6_sheet 36 = .ok (.iload_n 3, 1) := by decide +kernel
theorem dX6_sheet_37 : decode cX6_sheet 37 = .ok (.ifCond .ge 11, 3) := by decide +kernel
theorem dX6_sheet_40 : decode cX6_sheet 40 = .ok (.aload_n 0, 1) := by decide +kernel
theorem dX6_sheet_41 : decode cX6_sheet 41 = .ok (.ldc_w 332, 3) := by decide +kernel
theorem dX6_sheet_44 : decode cX6_sheet 44 = .ok (.invokevirtual 73, 3) := by decide +kernel
theorem dX6_sheet_47 : decode cX6_sheet 47 = .ok (.ireturn, 1) := by decide +kernel
theorem dX6_sheet_48 : decode cX6_sheet 48 = .ok (.iload_n 3, 1) := by decide +kernel
theorem dX6_sheet_49 : decode cX6_sheet 49 = .ok (.bipush 40, 2) := by decide +kernel
theorem dX6_sheet_51 : decode cX6_sheet 51 = .ok (.if_icmp .le 10, 3) := by decide +kernel
theorem dX6_sheet_54 : decode cX6_sheet 54 = .ok (.aload_n 0, 1) := by decide +kernel
theorem dX6_sheet_55 : decode cX6_sheet 55 = .ok (.ldc 49, 2) := by decide +kernel
theorem dX6_sheet_57 : decode cX6_sheet 57 = .ok (.invokevirtual 73, 3) := by decide +kernel
theorem dX6_sheet_60 : decode cX6_sheet 60 = .ok (.ireturn, 1) := by decide +kernel
theorem dX6_sheet_61 : decode cX6_sheet 61 = .ok (.aload_n 0, 1) := by decide +kernel
theorem dX6_sheet_62 : decode cX6_sheet 62 = .ok (.getfield 37, 3) := by decide +kernel
theorem dX6_sheet_65 : decode cX6_sheet 65 = .ok (.iload_n 1, 1) := by decide +kernel
theorem dX6_sheet_66 : decode cX6_sheet 66 = .ok (.iload_n 2, 1) := by decide +kernel
theorem dX6_sheet_67 : decode cX6_sheet 67 = .ok (.iastore, 1) := by decide +kernel
theorem dX6_sheet_68 : decode cX6_sheet 68 = .ok (.aload_n 0, 1) := by decide +kernel
theorem dX6_sheet_69 : decode cX6_sheet 69 = .ok (.getfield 40, 3) := by decide +kernel
theorem dX6_sheet_72 : decode cX6_sheet 72 = .ok (.iload_n 1, 1) := by decide +kernel
theorem dX6_sheet_73 : decode cX6_sheet 73 = .ok (.iload_n 2, 1) := by decide +kernel
theorem dX6_sheet_74 : decode cX6_sheet 74 = .ok (.ifCond .ne 7, 3) := by decide +kernel
theorem dX6_sheet_77 : decode cX6_sheet 77 = .ok (.iconst 0, 1) := by decide +kernel
theorem dX6_sheet_78 : decode cX6_sheet 78 = .ok (.goto 4, 3) := by decide +kernel
theorem dX6_sheet_81 : decode cX6_sheet 81 = .ok (.iload_n 3, 1) := by decide +kernel
theorem dX6_sheet_82 : decode cX6_sheet 82 = .ok (.iastore, 1) := by decide +kernel
theorem dX6_sheet_83 : decode cX6_sheet 83 = .ok (.iconst 0, 1) := by decide +kernel
theorem dX6_sheet_84 : decode cX6_sheet 84 = .ok (.istore 4, 2) := by decide +kernel
theorem dX6_sheet_86 : decode cX6_sheet 86 = .ok (.iload 4, 2) := by decide +kernel
theorem dX6_sheet_88 : decode cX6_sheet 88 = .ok (.bipush 40, 2) := by decide +kernel
theorem dX6_sheet_90 : decode cX6_sheet 90 = .ok (.if_icmp .ge 22, 3) := by decide +kernel
theorem dX6_sheet_93 : decode cX6_sheet 93 = .ok (.aload_n 0, 1) := by decide +kernel
theorem dX6_sheet_94 : decode cX6_sheet 94 = .ok (.getfield 43, 3) := by decide +kernel
theorem dX6_sheet_97 : decode cX6_sheet 97 = .ok (.bipush 40, 2) := by decide +kernel
theorem dX6_sheet_99 : decode cX6_sheet 99 = .ok (.iload_n 1, 1) := by decide +kernel
theorem dX6_sheet_100 : decode cX6_sheet 100 = .ok (.imul, 1) := by decide +kernel
theorem dX6_sheet_101 : decode cX6_sheet 101 = .ok (.iload 4, 2) := by decide +kernel
theorem dX6_sheet_103 : decode cX6_sheet 103 = .ok (.iadd, 1) := by decide +kernel
theorem dX6_sheet_104 : decode cX6_sheet 104 = .ok (.iconst 0, 1) := by decide +kernel
theorem dX6_sheet_105 : decode cX6_sheet 105 = .ok (.iastore, 1) := by decide +kernel
theorem dX6_sheet_106 : decode cX6_sheet 106 = .ok (.iinc 4 1, 3) := by decide +kernel
theorem dX6_sheet_109 : decode cX6_sheet 109 = .ok (.goto (-23), 3) := by decide +kernel
theorem dX6_sheet_112 : decode cX6_sheet 112 = .ok (.aload_n 0, 1) := by decide +kernel
theorem dX6_sheet_113 : decode cX6_sheet 113 = .ok (.getfield 40, 3) := by decide +kernel
theorem dX6_sheet_116 : decode cX6_sheet 116 = .ok (.iload_n 1, 1) := by decide +kernel
theorem dX6_sheet_117 : decode cX6_sheet 117 = .ok (.iaload, 1) := by decide +kernel
theorem dX6_sheet_118 : decode cX6_sheet 118 = .ok (.ireturn, 1) := by decide +kernel
theorem dX6_narrowed_0 : decode cX6_narrowed 0 = .ok (.iload_n 0, 1) := by decide +kernel
theorem dX6_narrowed_1 : decode cX6_narrowed 1 = .ok (.bipush 8, 2) := by decide +kernel
theorem dX6_narrowed_3 : decode cX6_narrowed 3 = .ok (.if_icmp .ne 8, 3) := by decide +kernel
theorem dX6_narrowed_6 : decode cX6_narrowed 6 = .ok (.iload_n 1, 1) := by decide +kernel
theorem dX6_narrowed_7 : decode cX6_narrowed 7 = .ok (.i2b, 1) := by decide +kernel
theorem dX6_narrowed_8 : decode cX6_narrowed 8 = .ok (.goto 15, 3) := by decide +kernel
theorem dX6_narrowed_11 : decode cX6_narrowed 11 = .ok (.iload_n 0, 1) := by decide +kernel
theorem dX6_narrowed_12 : decode cX6_narrowed 12 = .ok (.bipush 16, 2) := by decide +kernel
theorem dX6_narrowed_14 : decode cX6_narrowed 14 = .ok (.if_icmp .ne 8, 3) := by decide +kernel
theorem dX6_narrowed_17 : decode cX6_narrowed 17 = .ok (.iload_n 1, 1) := by decide +kernel
theorem dX6_narrowed_18 : decode cX6_narrowed 18 = .ok (.i2s, 1) := by decide +kernel
theorem dX6_narrowed_19 : decode cX6_narrowed 19 = .ok (.goto 4, 3) := by decide +kernel
theorem dX6_narrowed_22 : decode cX6_narrowed 22 = .ok (.iload_n 1, 1) := by decide +kernel
theorem dX6_narrowed_23 : decode cX6_narrowed 23 = .ok (.ireturn, 1) := by decide +kernel
theorem dX6_wrong_0 : decode cX6_wrong 0 = .ok (.iload_n 1, 1) := by decide +kernel
theorem dX6_wrong_1 : decode cX6_wrong 1 = .ok (.invokestatic 329, 3) := by decide +kernel
theorem dX6_wrong_4 : decode cX6_wrong 4 = .ok (.ifCond .ne 8, 3) := by decide +kernel
theorem dX6_wrong_7 : decode cX6_wrong 7 = .ok (.ldc 49, 2) := by decide +kernel
theorem dX6_wrong_9 : decode cX6_wrong 9 = .ok (.goto 19, 3) := by decide +kernel
theorem dX6_wrong_12 : decode cX6_wrong 12 = .ok (.aload_n 0, 1) := by decide +kernel
theorem dX6_wrong_13 : decode cX6_wrong 13 = .ok (.getfield 37, 3) := by decide +kernel
theorem dX6_wrong_16 : decode cX6_wrong 16 = .ok (.iload_n 1, 1) := by decide +kernel
theorem dX6_wrong_17 : decode cX6_wrong 17 = .ok (.iaload, 1) := by decide +kernel
theorem dX6_wrong_18 : decode cX6_wrong 18 = .ok (.ifCond .ne 9, 3) := by decide +kernel
theorem dX6_wrong_21 : decode cX6_wrong 21 = .ok (.ldc_w 322, 3) := by decide +kernel
theorem dX6_wrong_24 : decode cX6_wrong 24 = .ok (.goto 4, 3) := by decide +kernel
theorem dX6_wrong_27 : decode cX6_wrong 27 = .ok (.iconst 0, 1) := by decide +kernel
theorem dX6_wrong_28 : decode cX6_wrong 28 = .ok (.ireturn, 1) := by decide +kernel
theorem dX6_write_0 : decode cX6_write 0 = .ok (.aload_n 0, 1) := by decide +kernel
theorem dX6_write_1 : decode cX6_write 1 = .ok (.iload_n 1, 1) := by decide +kernel
theorem dX6_write_2 : decode cX6_write 2 = .ok (.invokevirtual 190, 3) := by decide +kernel
theorem dX6_write_5 : decode cX6_write 5 = .ok (.istore 4, 2) := by decide +kernel
theorem dX6_write_7 : decode cX6_write 7 = .ok (.iload 4, 2) := by decide +kernel
theorem dX6_write_9 : decode cX6_write 9 = .ok (.ifCond .eq 10, 3) := by decide +kernel
theorem dX6_write_12 : decode cX6_write 12 = .ok (.aload_n 0, 1) := by decide +kernel
theorem dX6_write_13 : decode cX6_write 13 = .ok (.iload 4, 2) := by decide +kernel
theorem dX6_write_15 : decode cX6_write 15 = .ok (.invokevirtual 73, 3) := by decide +kernel
theorem dX6_write_18 : decode cX6_write 18 = .ok (.ireturn, 1) := by decide +kernel
theorem dX6_write_19 : decode cX6_write 19 = .ok (.iload_n 2, 1) := by decide +kernel
theorem dX6_write_20 : decode cX6_write 20 = .ok (.i2l, 1) := by decide +kernel
theorem dX6_write_21 : decode cX6_write 21 = .ok (.lconst 0, 1) := by decide +kernel
theorem dX6_write_22 : decode cX6_write 22 = .ok (.aload_n 0, 1) := by decide +kernel
theorem dX6_write_23 : decode cX6_write 23 = .ok (.getfield 40, 3) := by decide +kernel
theorem dX6_write_26 : decode cX6_write 26 = .ok (.iload_n 1, 1) := by decide +kernel
theorem dX6_write_27 : decode cX6_write 27 = .ok (.iaload, 1) := by decide +kernel
theorem dX6_write_28 : decode cX6_write 28 = .ok (.iconst 1, 1) := by decide +kernel
theorem dX6_write_29 : decode cX6_write 29 = .ok (.isub, 1) := by decide +kernel
theorem dX6_write_30 : decode cX6_write 30 = .ok (.i2l, 1) := by decide +kernel
theorem dX6_write_31 : decode cX6_write 31 = .ok (.invokestatic 52, 3) := by decide +kernel
theorem dX6_write_34 : decode cX6_write 34 = .ok (.ifCond .ne 10, 3) := by decide +kernel
theorem dX6_write_37 : decode cX6_write 37 = .ok (.aload_n 0, 1) := by decide +kernel
theorem dX6_write_38 : decode cX6_write 38 = .ok (.ldc 49, 2) := by decide +kernel
theorem dX6_write_40 : decode cX6_write 40 = .ok (.invokevirtual 73, 3) := by decide +kernel
theorem dX6_write_43 : decode cX6_write 43 = .ok (.ireturn, 1) := by decide +kernel
theorem dX6_write_44 : decode cX6_write 44 = .ok (.aload_n 0, 1) := by decide +kernel
theorem dX6_write_45 : decode cX6_write 45 = .ok (.getfield 43, 3) := by decide +kernel
theorem dX6_write_48 : decode cX6_write 48 = .ok (.bipush 40, 2) := by decide +kernel
theorem dX6_write_50 : decode cX6_write 50 = .ok (.iload_n 1, 1) := by decide +kernel
theorem dX6_write_51 : decode cX6_write 51 = .ok (.imul, 1) := by decide +kernel
theorem dX6_write_52 : decode cX6_write 52 = .ok (.iload_n 2, 1) := by decide +kernel
theorem dX6_write_53 : decode cX6_write 53 = .ok (.iadd, 1) := by decide +kernel
theorem dX6_write_54 : decode cX6_write 54 = .ok (.aload_n 0, 1) := by decide +kernel
theorem dX6_write_55 : decode cX6_write 55 = .ok (.getfield 37, 3) := by decide +kernel
theorem dX6_write_58 : decode cX6_write 58 = .ok (.iload_n 1, 1) := by decide +kernel
theorem dX6_write_59 : decode cX6_write 59 = .ok (.iaload, 1) := by decide +kernel
theorem dX6_write_60 : decode cX6_write 60 = .ok (.iload_n 3, 1) := by decide +kernel
theorem dX6_write_61 : decode cX6_write 61 = .ok (.invokestatic 333, 3) := by decide +kernel
theorem dX6_write_64 : decode cX6_write 64 = .ok (.iastore, 1) := by decide +kernel
theorem dX6_write_65 : decode cX6_write 65 = .ok (.iconst 1, 1) := by decide +kernel
theorem dX6_write_66 : decode cX6_write 66 = .ok (.ireturn, 1) := by decide +kernel
theorem dX6_copy_0 : decode cX6_copy 0 = .ok (.iload_n 1, 1) := by decide +kernel
theorem dX6_copy_1 : decode cX6_copy 1 = .ok (.invokestatic 329, 3) := by decide +kernel
theorem dX6_copy_4 : decode cX6_copy 4 = .ok (.ifCond .eq 10, 3) := by decide +kernel
theorem dX6_copy_7 : decode cX6_copy 7 = .ok (.iload_n 3, 1) := by decide +kernel
theorem dX6_copy_8 : decode cX6_copy 8 = .ok (.invokestatic 329, 3) := by decide +kernel
theorem dX6_copy_11 : decode cX6_copy 11 = .ok (.ifCond .ne 10, 3) := by decide +kernel
theorem dX6_copy_14 : decode cX6_copy 14 = .ok (.aload_n 0, 1) := by decide +kernel
theorem dX6_copy_15 : decode cX6_copy 15 = .ok (.ldc 49, 2) := by decide +kernel
theorem dX6_copy_17 : decode cX6_copy 17 = .ok (.invokevirtual 73, 3) := by decide +kernel
theorem dX6_copy_20 : decode cX6_copy 20 = .ok (.ireturn, 1) := by decide +kernel
theorem dX6_copy_21 : decode cX6_copy 21 = .ok (.aload_n 0, 1) := by decide +kernel
theorem dX6_copy_22 : decode cX6_copy 22 = .ok (.getfield 37, 3) := by decide +kernel
theorem dX6_copy_25 : decode cX6_copy 25 = .ok (.iload_n 1, 1) := by decide +kernel
theorem dX6_copy_26 : decode cX6_copy 26 = .ok (.iaload, 1) := by decide +kernel
theorem dX6_copy_27 : decode cX6_copy 27 = .ok (.ifCond .eq 12, 3) := by decide +kernel
theorem dX6_copy_30 : decode cX6_copy 30 = .ok (.aload_n 0, 1) := by decide +kernel
theorem dX6_copy_31 : decode cX6_copy 31 = .ok (.getfield 37, 3) := by decide +kernel
theorem dX6_copy_34 : decode cX6_copy 34 = .ok (.iload_n 3, 1) := by decide +kernel
theorem dX6_copy_35 : decode cX6_copy 35 = .ok (.iaload, 1) := by decide +kernel
theorem dX6_copy_36 : decode cX6_copy 36 = .ok (.ifCond .ne 11, 3) := by decide +kernel
theorem dX6_copy_39 : decode cX6_copy 39 = .ok (.aload_n 0, 1) := by decide +kernel
theorem dX6_copy_40 : decode cX6_copy 40 = .ok (.ldc_w 322, 3) := by decide +kernel
theorem dX6_copy_43 : decode cX6_copy 43 = .ok (.invokevirtual 73, 3) := by decide +kernel
theorem dX6_copy_46 : decode cX6_copy 46 = .ok (.ireturn, 1) := by decide +kernel
theorem dX6_copy_47 : decode cX6_copy 47 = .ok (.aload_n 0, 1) := by decide +kernel
theorem dX6_copy_48 : decode cX6_copy 48 = .ok (.getfield 37, 3) := by decide +kernel
theorem dX6_copy_51 : decode cX6_copy 51 = .ok (.iload_n 1, 1) := by decide +kernel
theorem dX6_copy_52 : decode cX6_copy 52 = .ok (.iaload, 1) := by decide +kernel
theorem dX6_copy_53 : decode cX6_copy 53 = .ok (.aload_n 0, 1) := by decide +kernel
theorem dX6_copy_54 : decode cX6_copy 54 = .ok (.getfield 37, 3) := by decide +kernel
theorem dX6_copy_57 : decode cX6_copy 57 = .ok (.iload_n 3, 1) := by decide +kernel
theorem dX6_copy_58 : decode cX6_copy 58 = .ok (.iaload, 1) := by decide +kernel
theorem dX6_copy_59 : decode cX6_copy 59 = .ok (.if_icmp .eq 11, 3) := by decide +kernel
theorem dX6_copy_62 : decode cX6_copy 62 = .ok (.aload_n 0, 1) := by decide +kernel
theorem dX6_copy_63 : decode cX6_copy 63 = .ok (.ldc_w 326, 3) := by decide +kernel
theorem dX6_copy_66 : decode cX6_copy 66 = .ok (.invokevirtual 73, 3) := by decide +kernel
theorem dX6_copy_69 : decode cX6_copy 69 = .ok (.ireturn, 1) := by decide +kernel
theorem dX6_copy_70 : decode cX6_copy 70 = .ok (.iload_n 2, 1) := by decide +kernel
theorem dX6_copy_71 : decode cX6_copy 71 = .ok (.ifCond .lt 40, 3) := by decide +kernel
theorem dX6_copy_74 : decode cX6_copy 74 = .ok (.iload 4, 2) := by decide +kernel
theorem dX6_copy_76 : decode cX6_copy 76 = .ok (.ifCond .lt 35, 3) := by decide +kernel
theorem dX6_copy_79 : decode cX6_copy 79 = .ok (.iload 5, 2) := by decide +kernel
theorem dX6_copy_81 : decode cX6_copy 81 = .ok (.ifCond .lt 30, 3) := by decide +kernel
theorem dX6_copy_84 : decode cX6_copy 84 = .ok (.iload 5, 2) := by decide +kernel
theorem dX6_copy_86 : decode cX6_copy 86 = .ok (.aload_n 0, 1) := by decide +kernel
theorem dX6_copy_87 : decode cX6_copy 87 = .ok (.getfield 40, 3) := by decide +kernel
theorem dX6_copy_90 : decode cX6_copy 90 = .ok (.iload_n 1, 1) := by decide +kernel
theorem dX6_copy_91 : decode cX6_copy 91 = .ok (.iaload, 1) := by decide +kernel
theorem dX6_copy_92 : decode cX6_copy 92 = .ok (.iload_n 2, 1) := by decide +kernel
theorem dX6_copy_93 : decode cX6_copy 93 = .ok (.isub, 1) := by decide +kernel
theorem dX6_copy_94 : decode cX6_copy 94 = .ok (.if_icmp .gt 17, 3) := by decide +kernel
theorem dX6_copy_97 : decode cX6_copy 97 = .ok (.iload 5, 2) := by decide +kernel
theorem dX6_copy_99 : decode cX6_copy 99 = .ok (.aload_n 0, 1) := by decide +kernel
theorem dX6_copy_100 : decode cX6_copy 100 = .ok (.getfield 40, 3) := by decide +kernel
theorem dX6_copy_103 : decode cX6_copy 103 = .ok (.iload_n 3, 1) := by decide +kernel
theorem dX6_copy_104 : decode cX6_copy 104 = .ok (.iaload, 1) := by decide +kernel
theorem dX6_copy_105 : decode cX6_copy 105 = .ok (.iload 4, 2) := by decide +kernel
theorem dX6_copy_107 : decode cX6_copy 107 = .ok (.isub, 1) := by decide +kernel
theorem dX6_copy_108 : decode cX6_copy 108 = .ok (.if_icmp .le 10, 3) := by decide +kernel
theorem dX6_copy_111 : decode cX6_copy 111 = .ok (.aload_n 0, 1) := by decide +kernel
theorem dX6_copy_112 : decode cX6_copy 112 = .ok (.ldc 49, 2) := by decide +kernel
theorem dX6_copy_114 : decode cX6_copy 114 = .ok (.invokevirtual 73, 3) := by decide +kernel
theorem dX6_copy_117 : decode cX6_copy 117 = .ok (.ireturn, 1) := by decide +kernel
theorem dX6_copy_118 : decode cX6_copy 118 = .ok (.iconst 0, 1) := by decide +kernel
theorem dX6_copy_119 : decode cX6_copy 119 = .ok (.istore 6, 2) := by decide +kernel
theorem dX6_copy_121 : decode cX6_copy 121 = .ok (.iload 6, 2) := by decide +kernel
theorem dX6_copy_123 : decode cX6_copy 123 = .ok (.iload 5, 2) := by decide +kernel
theorem dX6_copy_125 : decode cX6_copy 125 = .ok (.if_icmp .ge 30, 3) := by decide +kernel
theorem dX6_copy_128 : decode cX6_copy 128 = .ok (.aload_n 0, 1) := by decide +kernel
theorem dX6_copy_129 : decode cX6_copy 129 = .ok (.getfield 46, 3) := by decide +kernel
theorem dX6_copy_132 : decode cX6_copy 132 = .ok (.iload 6, 2) := by decide +kernel
theorem dX6_copy_134 : decode cX6_copy 134 = .ok (.aload_n 0, 1) := by decide +kernel
theorem dX6_copy_135 : decode cX6_copy 135 = .ok (.getfield 43, 3) := by decide +kernel
theorem dX6_copy_138 : decode cX6_copy 138 = .ok (.bipush 40, 2) := by decide +kernel
theorem dX6_copy_140 : decode cX6_copy 140 = .ok (.iload_n 1, 1) := by decide +kernel
theorem dX6_copy_141 : decode cX6_copy 141 = .ok (.imul, 1) := by decide +kernel
theorem dX6_copy_142 : decode cX6_copy 142 = .ok (.iload_n 2, 1) := by decide +kernel
theorem dX6_copy_143 : decode cX6_copy 143 = .ok (.iadd, 1) := by decide +kernel
theorem dX6_copy_144 : decode cX6_copy 144 = .ok (.iload 6, 2) := by decide +kernel
theorem dX6_copy_146 : decode cX6_copy 146 = .ok (.iadd, 1) := by decide +kernel
theorem dX6_copy_147 : decode cX6_copy 147 = .ok (.iaload, 1) := by decide +kernel
theorem dX6_copy_148 : decode cX6_copy 148 = .ok (.iastore, 1) := by decide +kernel
theorem dX6_copy_149 : decode cX6_copy 149 = .ok (.iinc 6 1, 3) := by decide +kernel
theorem dX6_copy_152 : decode cX6_copy 152 = .ok (.goto (-31), 3) := by decide +kernel
theorem dX6_copy_155 : decode cX6_copy 155 = .ok (.iconst 0, 1) := by decide +kernel
theorem dX6_copy_156 : decode cX6_copy 156 = .ok (.istore 6, 2) := by decide +kernel
theorem dX6_copy_158 : decode cX6_copy 158 = .ok (.iload 6, 2) := by decide +kernel
theorem dX6_copy_160 : decode cX6_copy 160 = .ok (.iload 5, 2) := by decide +kernel
theorem dX6_copy_162 : decode cX6_copy 162 = .ok (.if_icmp .ge 31, 3) := by decide +kernel
theorem dX6_copy_165 : decode cX6_copy 165 = .ok (.aload_n 0, 1) := by decide +kernel
theorem dX6_copy_166 : decode cX6_copy 166 = .ok (.getfield 43, 3) := by decide +kernel
theorem dX6_copy_169 : decode cX6_copy 169 = .ok (.bipush 40, 2) := by decide +kernel
theorem dX6_copy_171 : decode cX6_copy 171 = .ok (.iload_n 3, 1) := by decide +kernel
theorem dX6_copy_172 : decode cX6_copy 172 = .ok (.imul, 1) := by decide +kernel
theorem dX6_copy_173 : decode cX6_copy 173 = .ok (.iload 4, 2) := by decide +kernel
theorem dX6_copy_175 : decode cX6_copy 175 = .ok (.iadd, 1) := by decide +kernel
theorem dX6_copy_176 : decode cX6_copy 176 = .ok (.iload 6, 2) := by decide +kernel
theorem dX6_copy_178 : decode cX6_copy 178 = .ok (.iadd, 1) := by decide +kernel
theorem dX6_copy_179 : decode cX6_copy 179 = .ok (.aload_n 0, 1) := by decide +kernel
theorem dX6_copy_180 : decode cX6_copy 180 = .ok (.getfield 46, 3) := by decide +kernel
theorem dX6_copy_183 : decode cX6_copy 183 = .ok (.iload 6, 2) := by decide +kernel
theorem dX6_copy_185 : decode cX6_copy 185 = .ok (.iaload, 1) := by decide +kernel
theorem dX6_copy_186 : decode cX6_copy 186 = .ok (.iastore, 1) := by decide +kernel
theorem dX6_copy_187 : decode cX6_copy 187 = .ok (.iinc 6 1, 3) := by decide +kernel
theorem dX6_copy_190 : decode cX6_copy 190 = .ok (.goto (-32), 3) := by decide +kernel
theorem dX6_copy_193 : decode cX6_copy 193 = .ok (.iload 5, 2) := by decide +kernel
theorem dX6_copy_195 : decode cX6_copy 195 = .ok (.ireturn, 1) := by decide +kernel
theorem dX6_load_0 : decode cX6_load 0 = .ok (.aload_n 0, 1) := by decide +kernel
theorem dX6_load_1 : decode cX6_load 1 = .ok (.iload_n 1, 1) := by decide +kernel
theorem dX6_load_2 : decode cX6_load 2 = .ok (.invokevirtual 190, 3) := by decide +kernel
theorem dX6_load_5 : decode cX6_load 5 = .ok (.istore_n 2, 1) := by decide +kernel
theorem dX6_load_6 : decode cX6_load 6 = .ok (.iload_n 2, 1) := by decide +kernel
theorem dX6_load_7 : decode cX6_load 7 = .ok (.ifCond .eq 9, 3) := by decide +kernel
theorem dX6_load_10 : decode cX6_load 10 = .ok (.aload_n 0, 1) := by decide +kernel
theorem dX6_load_11 : decode cX6_load 11 = .ok (.iload_n 2, 1) := by decide +kernel
theorem dX6_load_12 : decode cX6_load 12 = .ok (.invokevirtual 73, 3) := by decide +kernel
theorem dX6_load_15 : decode cX6_load 15 = .ok (.ireturn, 1) := by decide +kernel
theorem dX6_load_16 : decode cX6_load 16 = .ok (.iconst 0, 1) := by decide +kernel
theorem dX6_load_17 : decode cX6_load 17 = .ok (.istore_n 3, 1) := by decide +kernel
theorem dX6_load_18 : decode cX6_load 18 = .ok (.iload_n 3, 1) := by decide +kernel
theorem dX6_load_19 : decode cX6_load 19 = .ok (.aload_n 0, 1) := by decide +kernel
theorem dX6_load_20 : decode cX6_load 20 = .ok (.getfield 40, 3) := by decide +kernel
theorem dX6_load_23 : decode cX6_load 23 = .ok (.iload_n 1, 1) := by decide +kernel
theorem dX6_load_24 : decode cX6_load 24 = .ok (.iaload, 1) := by decide +kernel
theorem dX6_load_25 : decode cX6_load 25 = .ok (.if_icmp .ge 64, 3) := by decide +kernel
theorem dX6_load_28 : decode cX6_load 28 = .ok (.iload_n 3, 1) := by decide +kernel
theorem dX6_load_29 : decode cX6_load 29 = .ok (.aload_n 0, 1) := by decide +kernel
theorem dX6_load_30 : decode cX6_load 30 = .ok (.getfield 7, 3) := by decide +kernel
theorem dX6_load_33 : decode cX6_load 33 = .ok (.iconst 1, 1) := by decide +kernel
theorem dX6_load_34 : decode cX6_load 34 = .ok (.iaload, 1) := by decide +kernel
theorem dX6_load_35 : decode cX6_load 35 = .ok (.if_icmp .ge 54, 3) := by decide +kernel
theorem dX6_load_38 : decode cX6_load 38 = .ok (.aload_n 0, 1) := by decide +kernel
theorem dX6_load_39 : decode cX6_load 39 = .ok (.getfield 43, 3) := by decide +kernel
theorem dX6_load_42 : decode cX6_load 42 = .ok (.bipush 40, 2) := by decide +kernel
theorem dX6_load_44 : decode cX6_load 44 = .ok (.iload_n 1, 1) := by decide +kernel
theorem dX6_load_45 : decode cX6_load 45 = .ok (.imul, 1) := by decide +kernel
theorem dX6_load_46 : decode cX6_load 46 = .ok (.iload_n 3, 1) := by decide +kernel
theorem dX6_load_47 : decode cX6_load 47 = .ok (.iadd, 1) := by decide +kernel
theorem dX6_load_48 : decode cX6_load 48 = .ok (.iaload, 1) := by decide +kernel
theorem dX6_load_49 : decode cX6_load 49 = .ok (.invokestatic 90, 3) := by decide +kernel
theorem dX6_load_52 : decode cX6_load 52 = .ok (.ifCond .eq 37, 3) := by decide +kernel
theorem dX6_load_55 : decode cX6_load 55 = .ok (.aload_n 0, 1) := by decide +kernel
theorem dX6_load_56 : decode cX6_load 56 = .ok (.getfield 7, 3) := by decide +kernel
theorem dX6_load_59 : decode cX6_load 59 = .ok (.iload_n 3, 1) := by decide +kernel
theorem dX6_load_60 : decode cX6_load 60 = .ok (.iconst 2, 1) := by decide +kernel
theorem dX6_load_61 : decode cX6_load 61 = .ok (.aload_n 0, 1) := by decide +kernel
theorem dX6_load_62 : decode cX6_load 62 = .ok (.getfield 7, 3) := by decide +kernel
theorem dX6_load_65 : decode cX6_load 65 = .ok (.iconst 3, 1) := by decide +kernel
theorem dX6_load_66 : decode cX6_load 66 = .ok (.iaload, 1) := by decide +kernel
theorem dX6_load_67 : decode cX6_load 67 = .ok (.iadd, 1) := by decide +kernel
theorem dX6_load_68 : decode cX6_load 68 = .ok (.invokestatic 66, 3) := by decide +kernel
theorem dX6_load_71 : decode cX6_load 71 = .ok (.aload_n 0, 1) := by decide +kernel
theorem dX6_load_72 : decode cX6_load 72 = .ok (.getfield 43, 3) := by decide +kernel
theorem dX6_load_75 : decode cX6_load 75 = .ok (.bipush 40, 2) := by decide +kernel
theorem dX6_load_77 : decode cX6_load 77 = .ok (.iload_n 1, 1) := by decide +kernel
theorem dX6_load_78 : decode cX6_load 78 = .ok (.imul, 1) := by decide +kernel
theorem dX6_load_79 : decode cX6_load 79 = .ok (.iload_n 3, 1) := by decide +kernel
theorem dX6_load_80 : decode cX6_load 80 = .ok (.iadd, 1) := by decide +kernel
theorem dX6_load_81 : decode cX6_load 81 = .ok (.iaload, 1) := by decide +kernel
theorem dX6_load_82 : decode cX6_load 82 = .ok (.iastore, 1) := by decide +kernel
theorem dX6_load_83 : decode cX6_load 83 = .ok (.iinc 3 1, 3) := by decide +kernel
theorem dX6_load_86 : decode cX6_load 86 = .ok (.goto (-68), 3) := by decide +kernel
theorem dX6_load_89 : decode cX6_load 89 = .ok (.iload_n 3, 1) := by decide +kernel
theorem dX6_load_90 : decode cX6_load 90 = .ok (.ireturn, 1) := by decide +kernel
theorem dX6_judge_0 : decode cX6_judge 0 = .ok (.aload_n 0, 1) := by decide +kernel
theorem dX6_judge_1 : decode cX6_judge 1 = .ok (.iload_n 1, 1) := by decide +kernel
theorem dX6_judge_2 : decode cX6_judge 2 = .ok (.invokevirtual 190, 3) := by decide +kernel
theorem dX6_judge_5 : decode cX6_judge 5 = .ok (.istore_n 2, 1) := by decide +kernel
theorem dX6_judge_6 : decode cX6_judge 6 = .ok (.iload_n 2, 1) := by decide +kernel
theorem dX6_judge_7 : decode cX6_judge 7 = .ok (.ifCond .eq 9, 3) := by decide +kernel
theorem dX6_judge_10 : decode cX6_judge 10 = .ok (.aload_n 0, 1) := by decide +kernel
theorem dX6_judge_11 : decode cX6_judge 11 = .ok (.iload_n 2, 1) := by decide +kernel
theorem dX6_judge_12 : decode cX6_judge 12 = .ok (.invokevirtual 73, 3) := by decide +kernel
theorem dX6_judge_15 : decode cX6_judge 15 = .ok (.ireturn, 1) := by decide +kernel
theorem dX6_judge_16 : decode cX6_judge 16 = .ok (.iconst 0, 1) := by decide +kernel
theorem dX6_judge_17 : decode cX6_judge 17 = .ok (.istore_n 3, 1) := by decide +kernel
theorem dX6_judge_18 : decode cX6_judge 18 = .ok (.iload_n 3, 1) := by decide +kernel
theorem dX6_judge_19 : decode cX6_judge 19 = .ok (.aload_n 0, 1) := by decide +kernel
theorem dX6_judge_20 : decode cX6_judge 20 = .ok (.getfield 40, 3) := by decide +kernel
theorem dX6_judge_23 : decode cX6_judge 23 = .ok (.iload_n 1, 1) := by decide +kernel
theorem dX6_judge_24 : decode cX6_judge 24 = .ok (.iaload, 1) := by decide +kernel
theorem dX6_judge_25 : decode cX6_judge 25 = .ok (.if_icmp .ge 50, 3) := by decide +kernel
theorem dX6_judge_28 : decode cX6_judge 28 = .ok (.iload_n 3, 1) := by decide +kernel
theorem dX6_judge_29 : decode cX6_judge 29 = .ok (.aload_n 0, 1) := by decide +kernel
theorem dX6_judge_30 : decode cX6_judge 30 = .ok (.getfield 7, 3) := by decide +kernel
theorem dX6_judge_33 : decode cX6_judge 33 = .ok (.iconst 1, 1) := by decide +kernel
theorem dX6_judge_34 : decode cX6_judge 34 = .ok (.iaload, 1) := by decide +kernel
theorem dX6_judge_35 : decode cX6_judge 35 = .ok (.if_icmp .ge 30, 3) := by decide +kernel
theorem dX6_judge_38 : decode cX6_judge 38 = .ok (.aload_n 0, 1) := by decide +kernel
theorem dX6_judge_39 : decode cX6_judge 39 = .ok (.getfield 43, 3) := by decide +kernel
theorem dX6_judge_42 : decode cX6_judge 42 = .ok (.bipush 40, 2) := by decide +kernel
theorem dX6_judge_44 : decode cX6_judge 44 = .ok (.iload_n 1, 1) := by decide +kernel
theorem dX6_judge_45 : decode cX6_judge 45 = .ok (.imul, 1) := by decide +kernel
theorem dX6_judge_46 : decode cX6_judge 46 = .ok (.iload_n 3, 1) := by decide +kernel
theorem dX6_judge_47 : decode cX6_judge 47 = .ok (.iadd, 1) := by decide +kernel
theorem dX6_judge_48 : decode cX6_judge 48 = .ok (.iaload, 1) := by decide +kernel
theorem dX6_judge_49 : decode cX6_judge 49 = .ok (.aload_n 0, 1) := by decide +kernel
theorem dX6_judge_50 : decode cX6_judge 50 = .ok (.iload_n 3, 1) := by decide +kernel
theorem dX6_judge_51 : decode cX6_judge 51 = .ok (.iconst 2, 1) := by decide +kernel
theorem dX6_judge_52 : decode cX6_judge 52 = .ok (.aload_n 0, 1) := by decide +kernel
theorem dX6_judge_53 : decode cX6_judge 53 = .ok (.getfield 7, 3) := by decide +kernel
theorem dX6_judge_56 : decode cX6_judge 56 = .ok (.iconst 3, 1) := by decide +kernel
theorem dX6_judge_57 : decode cX6_judge 57 = .ok (.iaload, 1) := by decide +kernel
theorem dX6_judge_58 : decode cX6_judge 58 = .ok (.iadd, 1) := by decide +kernel
theorem dX6_judge_59 : decode cX6_judge 59 = .ok (.invokevirtual 83, 3) := by decide +kernel
theorem dX6_judge_62 : decode cX6_judge 62 = .ok (.if_icmp .eq 7, 3) := by decide +kernel
theorem dX6_judge_65 : decode cX6_judge 65 = .ok (.iconst 1, 1) := by decide +kernel
theorem dX6_judge_66 : decode cX6_judge 66 = .ok (.iload_n 3, 1) := by decide +kernel
theorem dX6_judge_67 : decode cX6_judge 67 = .ok (.iadd, 1) := by decide +kernel
theorem dX6_judge_68 : decode cX6_judge 68 = .ok (.ireturn, 1) := by decide +kernel
theorem dX6_judge_69 : decode cX6_judge 69 = .ok (.iinc 3 1, 3) := by decide +kernel
theorem dX6_judge_72 : decode cX6_judge 72 = .ok (.goto (-54), 3) := by decide +kernel
theorem dX6_judge_75 : decode cX6_judge 75 = .ok (.iconst 0, 1) := by decide +kernel
theorem dX6_judge_76 : decode cX6_judge 76 = .ok (.ireturn, 1) := by decide +kernel
theorem dX6_image_0 : decode cX6_image 0 = .ok (.iconst 0, 1) := by decide +kernel
theorem dX6_image_1 : decode cX6_image 1 = .ok (.istore_n 1, 1) := by decide +kernel
theorem dX6_image_2 : decode cX6_image 2 = .ok (.iload_n 1, 1) := by decide +kernel
theorem dX6_image_3 : decode cX6_image 3 = .ok (.bipush 81, 2) := by decide +kernel
theorem dX6_image_5 : decode cX6_image 5 = .ok (.if_icmp .ge 21, 3) := by decide +kernel
theorem dX6_image_8 : decode cX6_image 8 = .ok (.aload_n 0, 1) := by decide +kernel
theorem dX6_image_9 : decode cX6_image 9 = .ok (.getfield 13, 3) := by decide +kernel
theorem dX6_image_12 : decode cX6_image 12 = .ok (.iload_n 1, 1) := by decide +kernel
theorem dX6_image_13 : decode cX6_image 13 = .ok (.aload_n 0, 1) := by decide +kernel
theorem dX6_image_14 : decode cX6_image 14 = .ok (.getfield 7, 3) := by decide +kernel
theorem dX6_image_17 : decode cX6_image 17 = .ok (.iload_n 1, 1) := by decide +kernel
theorem dX6_image_18 : decode cX6_image 18 = .ok (.iaload, 1) := by decide +kernel
theorem dX6_image_19 : decode cX6_image 19 = .ok (.iastore, 1) := by decide +kernel
theorem dX6_image_20 : decode cX6_image 20 = .ok (.iinc 1 1, 3) := by decide +kernel
theorem dX6_image_23 : decode cX6_image 23 = .ok (.goto (-21), 3) := by decide +kernel
theorem dX6_image_26 : decode cX6_image 26 = .ok (.aload_n 0, 1) := by decide +kernel
theorem dX6_image_27 : decode cX6_image 27 = .ok (.iconst 1, 1) := by decide +kernel
theorem dX6_image_28 : decode cX6_image 28 = .ok (.putfield 336, 3) := by decide +kernel
theorem dX6_image_31 : decode cX6_image 31 = .ok (.iconst 1, 1) := by decide +kernel
theorem dX6_image_32 : decode cX6_image 32 = .ok (.ireturn, 1) := by decide +kernel
theorem dX6_undo_0 : decode cX6_undo 0 = .ok (.aload_n 0, 1) := by decide +kernel
theorem dX6_undo_1 : decode cX6_undo 1 = .ok (.getfield 336, 3) := by decide +kernel
theorem dX6_undo_4 : decode cX6_undo 4 = .ok (.ifCond .ne 10, 3) := by decide +kernel
theorem dX6_undo_7 : decode cX6_undo 7 = .ok (.aload_n 0, 1) := by decide +kernel
theorem dX6_undo_8 : decode cX6_undo 8 = .ok (.ldc 162, 2) := by decide +kernel
theorem dX6_undo_10 : decode cX6_undo 10 = .ok (.invokevirtual 73, 3) := by decide +kernel
theorem dX6_undo_13 : decode cX6_undo 13 = .ok (.ireturn, 1) := by decide +kernel
theorem dX6_undo_14 : decode cX6_undo 14 = .ok (.iconst 0, 1) := by decide +kernel
theorem dX6_undo_15 : decode cX6_undo 15 = .ok (.istore_n 1, 1) := by decide +kernel
theorem dX6_undo_16 : decode cX6_undo 16 = .ok (.iload_n 1, 1) := by decide +kernel
theorem dX6_undo_17 : decode cX6_undo 17 = .ok (.bipush 81, 2) := by decide +kernel
theorem dX6_undo_19 : decode cX6_undo 19 = .ok (.if_icmp .ge 21, 3) := by decide +kernel
theorem dX6_undo_22 : decode cX6_undo 22 = .ok (.aload_n 0, 1) := by decide +kernel
theorem dX6_undo_23 : decode cX6_undo 23 = .ok (.getfield 7, 3) := by decide +kernel
theorem dX6_undo_26 : decode cX6_undo 26 = .ok (.iload_n 1, 1) := by decide +kernel
theorem dX6_undo_27 : decode cX6_undo 27 = .ok (.aload_n 0, 1) := by decide +kernel
theorem dX6_undo_28 : decode cX6_undo 28 = .ok (.getfield 13, 3) := by decide +kernel
theorem dX6_undo_31 : decode cX6_undo 31 = .ok (.iload_n 1, 1) := by decide +kernel
theorem dX6_undo_32 : decode cX6_undo 32 = .ok (.iaload, 1) := by decide +kernel
theorem dX6_undo_33 : decode cX6_undo 33 = .ok (.iastore, 1) := by decide +kernel
theorem dX6_undo_34 : decode cX6_undo 34 = .ok (.iinc 1 1, 3) := by decide +kernel
theorem dX6_undo_37 : decode cX6_undo 37 = .ok (.goto (-21), 3) := by decide +kernel
theorem dX6_undo_40 : decode cX6_undo 40 = .ok (.aload_n 0, 1) := by decide +kernel
theorem dX6_undo_41 : decode cX6_undo 41 = .ok (.getfield 7, 3) := by decide +kernel
theorem dX6_undo_44 : decode cX6_undo 44 = .ok (.iconst 0, 1) := by decide +kernel
theorem dX6_undo_45 : decode cX6_undo 45 = .ok (.iaload, 1) := by decide +kernel
theorem dX6_undo_46 : decode cX6_undo 46 = .ok (.ireturn, 1) := by decide +kernel
theorem dX6_tear_0 : decode cX6_tear 0 = .ok (.aload_n 0, 1) := by decide +kernel
theorem dX6_tear_1 : decode cX6_tear 1 = .ok (.getfield 336, 3) := by decide +kernel
theorem dX6_tear_4 : decode cX6_tear 4 = .ok (.ifCond .eq 7, 3) := by decide +kernel
theorem dX6_tear_7 : decode cX6_tear 7 = .ok (.iconst 1, 1) := by decide +kernel
theorem dX6_tear_8 : decode cX6_tear 8 = .ok (.goto 4, 3) := by decide +kernel
theorem dX6_tear_11 : decode cX6_tear 11 = .ok (.iconst 0, 1) := by decide +kernel
theorem dX6_tear_12 : decode cX6_tear 12 = .ok (.istore_n 1, 1) := by decide +kernel
theorem dX6_tear_13 : decode cX6_tear 13 = .ok (.aload_n 0, 1) := by decide +kernel
theorem dX6_tear_14 : decode cX6_tear 14 = .ok (.iconst 0, 1) := by decide +kernel
theorem dX6_tear_15 : decode cX6_tear 15 = .ok (.putfield 336, 3) := by decide +kernel
theorem dX6_tear_18 : decode cX6_tear 18 = .ok (.iload_n 1, 1) := by decide +kernel
theorem dX6_tear_19 : decode cX6_tear 19 = .ok (.ireturn, 1) := by decide +kernel
theorem dX6_heldSpots_0 : decode cX6_heldSpots 0 = .ok (.iconst 0, 1) := by decide +kernel
theorem dX6_heldSpots_1 : decode cX6_heldSpots 1 = .ok (.istore_n 1, 1) := by decide +kernel
theorem dX6_heldSpots_2 : decode cX6_heldSpots 2 = .ok (.iconst 0, 1) := by decide +kernel
theorem dX6_heldSpots_3 : decode cX6_heldSpots 3 = .ok (.istore_n 2, 1) := by decide +kernel
theorem dX6_heldSpots_4 : decode cX6_heldSpots 4 = .ok (.iload_n 2, 1) := by decide +kernel
theorem dX6_heldSpots_5 : decode cX6_heldSpots 5 = .ok (.bipush 10, 2) := by decide +kernel
theorem dX6_heldSpots_7 : decode cX6_heldSpots 7 = .ok (.if_icmp .ge 29, 3) := by decide +kernel
theorem dX6_heldSpots_10 : decode cX6_heldSpots 10 = .ok (.iload_n 1, 1) := by decide +kernel
theorem dX6_heldSpots_11 : decode cX6_heldSpots 11 = .ok (.aload_n 0, 1) := by decide +kernel
theorem dX6_heldSpots_12 : decode cX6_heldSpots 12 = .ok (.getfield 7, 3) := by decide +kernel
theorem dX6_heldSpots_15 : decode cX6_heldSpots 15 = .ok (.bipush 71, 2) := by decide +kernel
theorem dX6_heldSpots_17 : decode cX6_heldSpots 17 = .ok (.iload_n 2, 1) := by decide +kernel
theorem dX6_heldSpots_18 : decode cX6_heldSpots 18 = .ok (.iadd, 1) := by decide +kernel
theorem dX6_heldSpots_19 : decode cX6_heldSpots 19 = .ok (.iaload, 1) := by decide +kernel
theorem dX6_heldSpots_20 : decode cX6_heldSpots 20 = .ok (.ifCond .lt 7, 3) := by decide +kernel
theorem dX6_heldSpots_23 : decode cX6_heldSpots 23 = .ok (.iconst 1, 1) := by decide +kernel
theorem dX6_heldSpots_24 : decode cX6_heldSpots 24 = .ok (.goto 4, 3) := by decide +kernel
theorem dX6_heldSpots_27 : decode cX6_heldSpots 27 = .ok (.iconst 0, 1) := by decide +kernel
theorem dX6_heldSpots_28 : decode cX6_heldSpots 28 = .ok (.iadd, 1) := by decide +kernel
theorem dX6_heldSpots_29 : decode cX6_heldSpots 29 = .ok (.istore_n 1, 1) := by decide +kernel
theorem dX6_heldSpots_30 : decode cX6_heldSpots 30 = .ok (.iinc 2 1, 3) := by decide +kernel
theorem dX6_heldSpots_33 : decode cX6_heldSpots 33 = .ok (.goto (-29), 3) := by decide +kernel
theorem dX6_heldSpots_36 : decode cX6_heldSpots 36 = .ok (.iload_n 1, 1) := by decide +kernel
theorem dX6_heldSpots_37 : decode cX6_heldSpots 37 = .ok (.ireturn, 1) := by decide +kernel
theorem dX6_count_0 : decode cX6_count 0 = .ok (.iload_n 1, 1) := by decide +kernel
theorem dX6_count_1 : decode cX6_count 1 = .ok (.tableswitch 97 0 7 #[47, 54, 61, 68, 75, 80, 85, 92], 47) := by decide +kernel
theorem dX6_count_48 : decode cX6_count 48 = .ok (.aload_n 0, 1) := by decide +kernel
theorem dX6_count_49 : decode cX6_count 49 = .ok (.getfield 7, 3) := by decide +kernel
theorem dX6_count_52 : decode cX6_count 52 = .ok (.iconst 0, 1) := by decide +kernel
theorem dX6_count_53 : decode cX6_count 53 = .ok (.iaload, 1) := by decide +kernel
theorem dX6_count_54 : decode cX6_count 54 = .ok (.ireturn, 1) := by decide +kernel
theorem dX6_count_55 : decode cX6_count 55 = .ok (.aload_n 0, 1) := by decide +kernel
theorem dX6_count_56 : decode cX6_count 56 = .ok (.getfield 7, 3) := by decide +kernel
theorem dX6_count_59 : decode cX6_count 59 = .ok (.iconst 1, 1) := by decide +kernel
theorem dX6_count_60 : decode cX6_count 60 = .ok (.iaload, 1) := by decide +kernel
theorem dX6_count_61 : decode cX6_count 61 = .ok (.ireturn, 1) := by decide +kernel
theorem dX6_count_62 : decode cX6_count 62 = .ok (.aload_n 0, 1) := by decide +kernel
theorem dX6_count_63 : decode cX6_count 63 = .ok (.getfield 7, 3) := by decide +kernel
theorem dX6_count_66 : decode cX6_count 66 = .ok (.iconst 3, 1) := by decide +kernel
theorem dX6_count_67 : decode cX6_count 67 = .ok (.iaload, 1) := by decide +kernel
theorem dX6_count_68 : decode cX6_count 68 = .ok (.ireturn, 1) := by decide +kernel
theorem dX6_count_69 : decode cX6_count 69 = .ok (.aload_n 0, 1) := by decide +kernel
theorem dX6_count_70 : decode cX6_count 70 = .ok (.getfield 7, 3) := by decide +kernel
theorem dX6_count_73 : decode cX6_count 73 = .ok (.iconst 2, 1) := by decide +kernel
theorem dX6_count_74 : decode cX6_count 74 = .ok (.iaload, 1) := by decide +kernel
theorem dX6_count_75 : decode cX6_count 75 = .ok (.ireturn, 1) := by decide +kernel
theorem dX6_count_76 : decode cX6_count 76 = .ok (.aload_n 0, 1) := by decide +kernel
theorem dX6_count_77 : decode cX6_count 77 = .ok (.invokevirtual 148, 3) := by decide +kernel
theorem dX6_count_80 : decode cX6_count 80 = .ok (.ireturn, 1) := by decide +kernel
theorem dX6_count_81 : decode cX6_count 81 = .ok (.aload_n 0, 1) := by decide +kernel
theorem dX6_count_82 : decode cX6_count 82 = .ok (.getfield 219, 3) := by decide +kernel
theorem dX6_count_85 : decode cX6_count 85 = .ok (.ireturn, 1) := by decide +kernel
theorem dX6_count_86 : decode cX6_count 86 = .ok (.aload_n 0, 1) := by decide +kernel
theorem dX6_count_87 : decode cX6_count 87 = .ok (.getfield 7, 3) := by decide +kernel
theorem dX6_count_90 : decode cX6_count 90 = .ok (.iconst 4, 1) := by decide +kernel
theorem dX6_count_91 : decode cX6_count 91 = .ok (.iaload, 1) := by decide +kernel
theorem dX6_count_92 : decode cX6_count 92 = .ok (.ireturn, 1) := by decide +kernel
theorem dX6_count_93 : decode cX6_count 93 = .ok (.aload_n 0, 1) := by decide +kernel
theorem dX6_count_94 : decode cX6_count 94 = .ok (.invokevirtual 339, 3) := by decide +kernel
theorem dX6_count_97 : decode cX6_count 97 = .ok (.ireturn, 1) := by decide +kernel
theorem dX6_count_98 : decode cX6_count 98 = .ok (.aload_n 0, 1) := by decide +kernel
theorem dX6_count_99 : decode cX6_count 99 = .ok (.ldc 49, 2) := by decide +kernel
theorem dX6_count_101 : decode cX6_count 101 = .ok (.invokevirtual 73, 3) := by decide +kernel
theorem dX6_count_104 : decode cX6_count 104 = .ok (.ireturn, 1) := by decide +kernel
theorem dX6_status_0 : decode cX6_status 0 = .ok (.iload_n 1, 1) := by decide +kernel
theorem dX6_status_1 : decode cX6_status 1 = .ok (.i2l, 1) := by decide +kernel
theorem dX6_status_2 : decode cX6_status 2 = .ok (.ldc2_w 342, 3) := by decide +kernel
theorem dX6_status_5 : decode cX6_status 5 = .ok (.ldc2_w 60, 3) := by decide +kernel
theorem dX6_status_8 : decode cX6_status 8 = .ok (.invokestatic 52, 3) := by decide +kernel
theorem dX6_status_11 : decode cX6_status 11 = .ok (.ifCond .ne 10, 3) := by decide +kernel
theorem dX6_status_14 : decode cX6_status 14 = .ok (.aload_n 0, 1) := by decide +kernel
theorem dX6_status_15 : decode cX6_status 15 = .ok (.ldc 49, 2) := by decide +kernel
theorem dX6_status_17 : decode cX6_status 17 = .ok (.invokevirtual 73, 3) := by decide +kernel
theorem dX6_status_20 : decode cX6_status 20 = .ok (.ireturn, 1) := by decide +kernel
theorem dX6_status_21 : decode cX6_status 21 = .ok (.iconst 0, 1) := by decide +kernel
theorem dX6_status_22 : decode cX6_status 22 = .ok (.istore_n 2, 1) := by decide +kernel
theorem dX6_status_23 : decode cX6_status 23 = .ok (.iconst 0, 1) := by decide +kernel
theorem dX6_status_24 : decode cX6_status 24 = .ok (.istore_n 3, 1) := by decide +kernel
theorem dX6_status_25 : decode cX6_status 25 = .ok (.iload_n 3, 1) := by decide +kernel
theorem dX6_status_26 : decode cX6_status 26 = .ok (.bipush 7, 2) := by decide +kernel
theorem dX6_status_28 : decode cX6_status 28 = .ok (.if_icmp .ge 31, 3) := by decide +kernel
theorem dX6_status_31 : decode cX6_status 31 = .ok (.iload_n 2, 1) := by decide +kernel
theorem dX6_status_32 : decode cX6_status 32 = .ok (.iload_n 1, 1) := by decide +kernel
theorem dX6_status_33 : decode cX6_status 33 = .ok (.ifCond .lt 8, 3) := by decide +kernel
theorem dX6_status_36 : decode cX6_status 36 = .ok (.iload_n 3, 1) := by decide +kernel
theorem dX6_status_37 : decode cX6_status 37 = .ok (.iload_n 1, 1) := by decide +kernel
theorem dX6_status_38 : decode cX6_status 38 = .ok (.if_icmp .ne 12, 3) := by decide +kernel
theorem dX6_status_41 : decode cX6_status 41 = .ok (.aload_n 0, 1) := by decide +kernel
theorem dX6_status_42 : decode cX6_status 42 = .ok (.getfield 22, 3) := by decide +kernel
theorem dX6_status_45 : decode cX6_status 45 = .ok (.iload_n 3, 1) := by decide +kernel
theorem dX6_status_46 : decode cX6_status 46 = .ok (.iaload, 1) := by decide +kernel
theorem dX6_status_47 : decode cX6_status 47 = .ok (.goto 4, 3) := by decide +kernel
theorem dX6_status_50 : decode cX6_status 50 = .ok (.iconst 0, 1) := by decide +kernel
theorem dX6_status_51 : decode cX6_status 51 = .ok (.iadd, 1) := by decide +kernel
theorem dX6_status_52 : decode cX6_status 52 = .ok (.istore_n 2, 1) := by decide +kernel
theorem dX6_status_53 : decode cX6_status 53 = .ok (.iinc 3 1, 3) := by decide +kernel
theorem dX6_status_56 : decode cX6_status 56 = .ok (.goto (-31), 3) := by decide +kernel
theorem dX6_status_59 : decode cX6_status 59 = .ok (.iload_n 2, 1) := by decide +kernel
theorem dX6_status_60 : decode cX6_status 60 = .ok (.ireturn, 1) := by decide +kernel
