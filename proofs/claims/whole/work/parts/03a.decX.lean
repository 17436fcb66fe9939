theorem dX0_isUnder_0 : decode cX0_isUnder 0 = .ok (.iload_n 0, 1) := by decide +kernel
theorem dX0_isUnder_1 : decode cX0_isUnder 1 = .ok (.istore_n 2, 1) := by decide +kernel
theorem dX0_isUnder_2 : decode cX0_isUnder 2 = .ok (.iconst 0, 1) := by decide +kernel
theorem dX0_isUnder_3 : decode cX0_isUnder 3 = .ok (.istore_n 3, 1) := by decide +kernel
theorem dX0_isUnder_4 : decode cX0_isUnder 4 = .ok (.iload_n 3, 1) := by decide +kernel
theorem dX0_isUnder_5 : decode cX0_isUnder 5 = .ok (.bipush 7, 2) := by decide +kernel
theorem dX0_isUnder_7 : decode cX0_isUnder 7 = .ok (.if_icmp .ge 32, 3) := by decide +kernel
theorem dX0_isUnder_10 : decode cX0_isUnder 10 = .ok (.iload_n 2, 1) := by decide +kernel
theorem dX0_isUnder_11 : decode cX0_isUnder 11 = .ok (.ifCond .lt 28, 3) := by decide +kernel
theorem dX0_isUnder_14 : decode cX0_isUnder 14 = .ok (.iload_n 2, 1) := by decide +kernel
theorem dX0_isUnder_15 : decode cX0_isUnder 15 = .ok (.bipush 7, 2) := by decide +kernel
theorem dX0_isUnder_17 : decode cX0_isUnder 17 = .ok (.if_icmp .ge 22, 3) := by decide +kernel
theorem dX0_isUnder_20 : decode cX0_isUnder 20 = .ok (.iload_n 2, 1) := by decide +kernel
theorem dX0_isUnder_21 : decode cX0_isUnder 21 = .ok (.iload_n 1, 1) := by decide +kernel
theorem dX0_isUnder_22 : decode cX0_isUnder 22 = .ok (.if_icmp .ne 5, 3) := by decide +kernel
theorem dX0_isUnder_25 : decode cX0_isUnder 25 = .ok (.iconst 1, 1) := by decide +kernel
theorem dX0_isUnder_26 : decode cX0_isUnder 26 = .ok (.ireturn, 1) := by decide +kernel
theorem dX0_isUnder_27 : decode cX0_isUnder 27 = .ok (.getstatic 9, 3) := by decide +kernel
theorem dX0_isUnder_30 : decode cX0_isUnder 30 = .ok (.iload_n 2, 1) := by decide +kernel
theorem dX0_isUnder_31 : decode cX0_isUnder 31 = .ok (.iaload, 1) := by decide +kernel
theorem dX0_isUnder_32 : decode cX0_isUnder 32 = .ok (.istore_n 2, 1) := by decide +kernel
theorem dX0_isUnder_33 : decode cX0_isUnder 33 = .ok (.iinc 3 1, 3) := by decide +kernel
theorem dX0_isUnder_36 : decode cX0_isUnder 36 = .ok (.goto (-32), 3) := by decide +kernel
theorem dX0_isUnder_39 : decode cX0_isUnder 39 = .ok (.iconst 0, 1) := by decide +kernel
theorem dX0_isUnder_40 : decode cX0_isUnder 40 = .ok (.ireturn, 1) := by decide +kernel
theorem dX0_moves_0 : decode cX0_moves 0 = .ok (.iload_n 2, 1) := by decide +kernel
theorem dX0_moves_1 : decode cX0_moves 1 = .ok (.iconst 2, 1) := by decide +kernel
theorem dX0_moves_2 : decode cX0_moves 2 = .ok (.irem, 1) := by decide +kernel
theorem dX0_moves_3 : decode cX0_moves 3 = .ok (.ifCond .ne 7, 3) := by decide +kernel
theorem dX0_moves_6 : decode cX0_moves 6 = .ok (.iconst (-1), 1) := by decide +kernel
theorem dX0_moves_7 : decode cX0_moves 7 = .ok (.goto 4, 3) := by decide +kernel
theorem dX0_moves_10 : decode cX0_moves 10 = .ok (.iconst 1, 1) := by decide +kernel
theorem dX0_moves_11 : decode cX0_moves 11 = .ok (.istore_n 3, 1) := by decide +kernel
theorem dX0_moves_12 : decode cX0_moves 12 = .ok (.iload_n 0, 1) := by decide +kernel
theorem dX0_moves_13 : decode cX0_moves 13 = .ok (.tableswitch 64 1 6 #[39, 41, 43, 45, 58, 60], 39) := by decide +kernel
theorem dX0_moves_52 : decode cX0_moves 52 = .ok (.iconst 0, 1) := by decide +kernel
theorem dX0_moves_53 : decode cX0_moves 53 = .ok (.ireturn, 1) := by decide +kernel
theorem dX0_moves_54 : decode cX0_moves 54 = .ok (.iconst (-1), 1) := by decide +kernel
theorem dX0_moves_55 : decode cX0_moves 55 = .ok (.ireturn, 1) := by decide +kernel
theorem dX0_moves_56 : decode cX0_moves 56 = .ok (.iload_n 3, 1) := by decide +kernel
theorem dX0_moves_57 : decode cX0_moves 57 = .ok (.ireturn, 1) := by decide +kernel
theorem dX0_moves_58 : decode cX0_moves 58 = .ok (.iload_n 1, 1) := by decide +kernel
theorem dX0_moves_59 : decode cX0_moves 59 = .ok (.iconst 5, 1) := by decide +kernel
theorem dX0_moves_60 : decode cX0_moves 60 = .ok (.if_icmp .le 9, 3) := by decide +kernel
theorem dX0_moves_63 : decode cX0_moves 63 = .ok (.iload_n 3, 1) := by decide +kernel
theorem dX0_moves_64 : decode cX0_moves 64 = .ok (.iconst 1, 1) := by decide +kernel
theorem dX0_moves_65 : decode cX0_moves 65 = .ok (.iadd, 1) := by decide +kernel
theorem dX0_moves_66 : decode cX0_moves 66 = .ok (.goto 4, 3) := by decide +kernel
theorem dX0_moves_69 : decode cX0_moves 69 = .ok (.iload_n 3, 1) := by decide +kernel
theorem dX0_moves_70 : decode cX0_moves 70 = .ok (.ireturn, 1) := by decide +kernel
theorem dX0_moves_71 : decode cX0_moves 71 = .ok (.iload_n 1, 1) := by decide +kernel
theorem dX0_moves_72 : decode cX0_moves 72 = .ok (.ireturn, 1) := by decide +kernel
theorem dX0_moves_73 : decode cX0_moves 73 = .ok (.iload_n 1, 1) := by decide +kernel
theorem dX0_moves_74 : decode cX0_moves 74 = .ok (.iconst 2, 1) := by decide +kernel
theorem dX0_moves_75 : decode cX0_moves 75 = .ok (.idiv, 1) := by decide +kernel
theorem dX0_moves_76 : decode cX0_moves 76 = .ok (.ireturn, 1) := by decide +kernel
theorem dX0_moves_77 : decode cX0_moves 77 = .ok (.iconst 1, 1) := by decide +kernel
theorem dX0_moves_78 : decode cX0_moves 78 = .ok (.ireturn, 1) := by decide +kernel
theorem dX0_strokes_0 : decode cX0_strokes 0 = .ok (.iload_n 1, 1) := by decide +kernel
theorem dX0_strokes_1 : decode cX0_strokes 1 = .ok (.iload_n 2, 1) := by decide +kernel
theorem dX0_strokes_2 : decode cX0_strokes 2 = .ok (.iadd, 1) := by decide +kernel
theorem dX0_strokes_3 : decode cX0_strokes 3 = .ok (.istore 4, 2) := by decide +kernel
theorem dX0_strokes_5 : decode cX0_strokes 5 = .ok (.iload 4, 2) := by decide +kernel
theorem dX0_strokes_7 : decode cX0_strokes 7 = .ok (.ifCond .le 10, 3) := by decide +kernel
theorem dX0_strokes_10 : decode cX0_strokes 10 = .ok (.iload 4, 2) := by decide +kernel
theorem dX0_strokes_12 : decode cX0_strokes 12 = .ok (.iconst 1, 1) := by decide +kernel
theorem dX0_strokes_13 : decode cX0_strokes 13 = .ok (.isub, 1) := by decide +kernel
theorem dX0_strokes_14 : decode cX0_strokes 14 = .ok (.goto 4, 3) := by decide +kernel
theorem dX0_strokes_17 : decode cX0_strokes 17 = .ok (.iconst 0, 1) := by decide +kernel
theorem dX0_strokes_18 : decode cX0_strokes 18 = .ok (.istore 5, 2) := by decide +kernel
theorem dX0_strokes_20 : decode cX0_strokes 20 = .ok (.iload_n 0, 1) := by decide +kernel
theorem dX0_strokes_21 : decode cX0_strokes 21 = .ok (.tableswitch 76 1 6 #[39, 43, 46, 49, 54, 70], 39) := by decide +kernel
theorem dX0_strokes_60 : decode cX0_strokes 60 = .ok (.iload_n 1, 1) := by decide +kernel
theorem dX0_strokes_61 : decode cX0_strokes 61 = .ok (.iconst 2, 1) := by decide +kernel
theorem dX0_strokes_62 : decode cX0_strokes 62 = .ok (.iadd, 1) := by decide +kernel
theorem dX0_strokes_63 : decode cX0_strokes 63 = .ok (.ireturn, 1) := by decide +kernel
theorem dX0_strokes_64 : decode cX0_strokes 64 = .ok (.iload 4, 2) := by decide +kernel
theorem dX0_strokes_66 : decode cX0_strokes 66 = .ok (.ireturn, 1) := by decide +kernel
theorem dX0_strokes_67 : decode cX0_strokes 67 = .ok (.iload 5, 2) := by decide +kernel
theorem dX0_strokes_69 : decode cX0_strokes 69 = .ok (.ireturn, 1) := by decide +kernel
theorem dX0_strokes_70 : decode cX0_strokes 70 = .ok (.iconst 2, 1) := by decide +kernel
theorem dX0_strokes_71 : decode cX0_strokes 71 = .ok (.iload 5, 2) := by decide +kernel
theorem dX0_strokes_73 : decode cX0_strokes 73 = .ok (.imul, 1) := by decide +kernel
theorem dX0_strokes_74 : decode cX0_strokes 74 = .ok (.ireturn, 1) := by decide +kernel
theorem dX0_strokes_75 : decode cX0_strokes 75 = .ok (.iload_n 3, 1) := by decide +kernel
theorem dX0_strokes_76 : decode cX0_strokes 76 = .ok (.bipush 7, 2) := by decide +kernel
theorem dX0_strokes_78 : decode cX0_strokes 78 = .ok (.irem, 1) := by decide +kernel
theorem dX0_strokes_79 : decode cX0_strokes 79 = .ok (.ifCond .ne 10, 3) := by decide +kernel
theorem dX0_strokes_82 : decode cX0_strokes 82 = .ok (.iload_n 1, 1) := by decide +kernel
theorem dX0_strokes_83 : decode cX0_strokes 83 = .ok (.bipush 10, 2) := by decide +kernel
theorem dX0_strokes_85 : decode cX0_strokes 85 = .ok (.iadd, 1) := by decide +kernel
theorem dX0_strokes_86 : decode cX0_strokes 86 = .ok (.goto 4, 3) := by decide +kernel
theorem dX0_strokes_89 : decode cX0_strokes 89 = .ok (.iload_n 1, 1) := by decide +kernel
theorem dX0_strokes_90 : decode cX0_strokes 90 = .ok (.ireturn, 1) := by decide +kernel
theorem dX0_strokes_91 : decode cX0_strokes 91 = .ok (.iload_n 1, 1) := by decide +kernel
theorem dX0_strokes_92 : decode cX0_strokes 92 = .ok (.iconst 2, 1) := by decide +kernel
theorem dX0_strokes_93 : decode cX0_strokes 93 = .ok (.iadd, 1) := by decide +kernel
theorem dX0_strokes_94 : decode cX0_strokes 94 = .ok (.iconst 2, 1) := by decide +kernel
theorem dX0_strokes_95 : decode cX0_strokes 95 = .ok (.idiv, 1) := by decide +kernel
theorem dX0_strokes_96 : decode cX0_strokes 96 = .ok (.ireturn, 1) := by decide +kernel
theorem dX0_strokes_97 : decode cX0_strokes 97 = .ok (.iload_n 1, 1) := by decide +kernel
theorem dX0_strokes_98 : decode cX0_strokes 98 = .ok (.ireturn, 1) := by decide +kernel
theorem dX0_nameOf_0 : decode cX0_nameOf 0 = .ok (.iload_n 0, 1) := by decide +kernel
theorem dX0_nameOf_1 : decode cX0_nameOf 1 = .ok (.tableswitch 57 1 6 #[39, 42, 45, 48, 51, 54], 39) := by decide +kernel
theorem dX0_nameOf_40 : decode cX0_nameOf 40 = .ok (.ldc 15, 2) := by decide +kernel
theorem dX0_nameOf_42 : decode cX0_nameOf 42 = .ok (.areturn, 1) := by decide +kernel
theorem dX0_nameOf_43 : decode cX0_nameOf 43 = .ok (.ldc 17, 2) := by decide +kernel
theorem dX0_nameOf_45 : decode cX0_nameOf 45 = .ok (.areturn, 1) := by decide +kernel
theorem dX0_nameOf_46 : decode cX0_nameOf 46 = .ok (.ldc 19, 2) := by decide +kernel
theorem dX0_nameOf_48 : decode cX0_nameOf 48 = .ok (.areturn, 1) := by decide +kernel
theorem dX0_nameOf_49 : decode cX0_nameOf 49 = .ok (.ldc 21, 2) := by decide +kernel
theorem dX0_nameOf_51 : decode cX0_nameOf 51 = .ok (.areturn, 1) := by decide +kernel
theorem dX0_nameOf_52 : decode cX0_nameOf 52 = .ok (.ldc 23, 2) := by decide +kernel
theorem dX0_nameOf_54 : decode cX0_nameOf 54 = .ok (.areturn, 1) := by decide +kernel
theorem dX0_nameOf_55 : decode cX0_nameOf 55 = .ok (.ldc 25, 2) := by decide +kernel
theorem dX0_nameOf_57 : decode cX0_nameOf 57 = .ok (.areturn, 1) := by decide +kernel
theorem dX0_nameOf_58 : decode cX0_nameOf 58 = .ok (.ldc 27, 2) := by decide +kernel
theorem dX0_nameOf_60 : decode cX0_nameOf 60 = .ok (.areturn, 1) := by decide +kernel
theorem dX1_init_0 : decode cX1_init 0 = .ok (.aload_n 0, 1) := by decide +kernel
theorem dX1_init_1 : decode cX1_init 1 = .ok (.invokespecial 3, 3) := by decide +kernel
theorem dX1_init_4 : decode cX1_init 4 = .ok (.aload_n 0, 1) := by decide +kernel
theorem dX1_init_5 : decode cX1_init 5 = .ok (.bipush 64, 2) := by decide +kernel
theorem dX1_init_7 : decode cX1_init 7 = .ok (.newarray .int, 2) := by decide +kernel
theorem dX1_init_9 : decode cX1_init 9 = .ok (.putfield 9, 3) := by decide +kernel
theorem dX1_init_12 : decode cX1_init 12 = .ok (.aload_n 0, 1) := by decide +kernel
theorem dX1_init_13 : decode cX1_init 13 = .ok (.sipush 256, 3) := by decide +kernel
theorem dX1_init_16 : decode cX1_init 16 = .ok (.newarray .int, 2) := by decide +kernel
theorem dX1_init_18 : decode cX1_init 18 = .ok (.putfield 15, 3) := by decide +kernel
theorem dX1_init_21 : decode cX1_init 21 = .ok (.return_, 1) := by decide +kernel
theorem dX1_weigh_0 : decode cX1_weigh 0 = .ok (.aload_n 0, 1) := by decide +kernel
theorem dX1_weigh_1 : decode cX1_weigh 1 = .ok (.getfield 9, 3) := by decide +kernel
theorem dX1_weigh_4 : decode cX1_weigh 4 = .ok (.iload_n 1, 1) := by decide +kernel
theorem dX1_weigh_5 : decode cX1_weigh 5 = .ok (.iload_n 2, 1) := by decide +kernel
theorem dX1_weigh_6 : decode cX1_weigh 6 = .ok (.invokestatic 18, 3) := by decide +kernel
theorem dX1_weigh_9 : decode cX1_weigh 9 = .ok (.iload_n 3, 1) := by decide +kernel
theorem dX1_weigh_10 : decode cX1_weigh 10 = .ok (.iastore, 1) := by decide +kernel
theorem dX1_weigh_11 : decode cX1_weigh 11 = .ok (.return_, 1) := by decide +kernel
theorem dX1_solve_0 : decode cX1_solve 0 = .ok (.aload_n 0, 1) := by decide +kernel
theorem dX1_solve_1 : decode cX1_solve 1 = .ok (.getfield 15, 3) := by decide +kernel
theorem dX1_solve_4 : decode cX1_solve 4 = .ok (.iconst 0, 1) := by decide +kernel
theorem dX1_solve_5 : decode cX1_solve 5 = .ok (.iconst 0, 1) := by decide +kernel
theorem dX1_solve_6 : decode cX1_solve 6 = .ok (.iastore, 1) := by decide +kernel
theorem dX1_solve_7 : decode cX1_solve 7 = .ok (.iconst 1, 1) := by decide +kernel
theorem dX1_solve_8 : decode cX1_solve 8 = .ok (.istore_n 2, 1) := by decide +kernel
theorem dX1_solve_9 : decode cX1_solve 9 = .ok (.iload_n 2, 1) := by decide +kernel
theorem dX1_solve_10 : decode cX1_solve 10 = .ok (.iload_n 1, 1) := by decide +kernel
theorem dX1_solve_11 : decode cX1_solve 11 = .ok (.invokestatic 22, 3) := by decide +kernel
theorem dX1_solve_14 : decode cX1_solve 14 = .ok (.if_icmp .gt 84, 3) := by decide +kernel
theorem dX1_solve_17 : decode cX1_solve 17 = .ok (.iload_n 2, 1) := by decide +kernel
theorem dX1_solve_18 : decode cX1_solve 18 = .ok (.invokestatic 26, 3) := by decide +kernel
theorem dX1_solve_21 : decode cX1_solve 21 = .ok (.istore_n 3, 1) := by decide +kernel
theorem dX1_solve_22 : decode cX1_solve 22 = .ok (.iload_n 2, 1) := by decide +kernel
theorem dX1_solve_23 : decode cX1_solve 23 = .ok (.iconst 1, 1) := by decide +kernel
theorem dX1_solve_24 : decode cX1_solve 24 = .ok (.iload_n 3, 1) := by decide +kernel
theorem dX1_solve_25 : decode cX1_solve 25 = .ok (.ishl, 1) := by decide +kernel
theorem dX1_solve_26 : decode cX1_solve 26 = .ok (.iconst (-1), 1) := by decide +kernel
theorem dX1_solve_27 : decode cX1_solve 27 = .ok (.ixor, 1) := by decide +kernel
theorem dX1_solve_28 : decode cX1_solve 28 = .ok (.iand, 1) := by decide +kernel
theorem dX1_solve_29 : decode cX1_solve 29 = .ok (.istore 4, 2) := by decide +kernel
theorem dX1_solve_31 : decode cX1_solve 31 = .ok (.aload_n 0, 1) := by decide +kernel
theorem dX1_solve_32 : decode cX1_solve 32 = .ok (.getfield 15, 3) := by decide +kernel
theorem dX1_solve_35 : decode cX1_solve 35 = .ok (.iload 4, 2) := by decide +kernel
theorem dX1_solve_37 : decode cX1_solve 37 = .ok (.iaload, 1) := by decide +kernel
theorem dX1_solve_38 : decode cX1_solve 38 = .ok (.istore 5, 2) := by decide +kernel
theorem dX1_solve_40 : decode cX1_solve 40 = .ok (.iload_n 3, 1) := by decide +kernel
theorem dX1_solve_41 : decode cX1_solve 41 = .ok (.iconst 1, 1) := by decide +kernel
theorem dX1_solve_42 : decode cX1_solve 42 = .ok (.iadd, 1) := by decide +kernel
theorem dX1_solve_43 : decode cX1_solve 43 = .ok (.istore 6, 2) := by decide +kernel
theorem dX1_solve_45 : decode cX1_solve 45 = .ok (.iload 6, 2) := by decide +kernel
theorem dX1_solve_47 : decode cX1_solve 47 = .ok (.iload_n 1, 1) := by decide +kernel
theorem dX1_solve_48 : decode cX1_solve 48 = .ok (.if_icmp .ge 36, 3) := by decide +kernel
theorem dX1_solve_51 : decode cX1_solve 51 = .ok (.iload 4, 2) := by decide +kernel
theorem dX1_solve_53 : decode cX1_solve 53 = .ok (.iload 6, 2) := by decide +kernel
theorem dX1_solve_55 : decode cX1_solve 55 = .ok (.ishr, 1) := by decide +kernel
theorem dX1_solve_56 : decode cX1_solve 56 = .ok (.iconst 1, 1) := by decide +kernel
theorem dX1_solve_57 : decode cX1_solve 57 = .ok (.iand, 1) := by decide +kernel
theorem dX1_solve_58 : decode cX1_solve 58 = .ok (.iconst 1, 1) := by decide +kernel
theorem dX1_solve_59 : decode cX1_solve 59 = .ok (.if_icmp .ne 19, 3) := by decide +kernel
theorem dX1_solve_62 : decode cX1_solve 62 = .ok (.iload 5, 2) := by decide +kernel
theorem dX1_solve_64 : decode cX1_solve 64 = .ok (.aload_n 0, 1) := by decide +kernel
theorem dX1_solve_65 : decode cX1_solve 65 = .ok (.iload_n 3, 1) := by decide +kernel
theorem dX1_solve_66 : decode cX1_solve 66 = .ok (.iload 6, 2) := by decide +kernel
theorem dX1_solve_68 : decode cX1_solve 68 = .ok (.iload 4, 2) := by decide +kernel
theorem dX1_solve_70 : decode cX1_solve 70 = .ok (.invokevirtual 29, 3) := by decide +kernel
theorem dX1_solve_73 : decode cX1_solve 73 = .ok (.invokestatic 33, 3) := by decide +kernel
theorem dX1_solve_76 : decode cX1_solve 76 = .ok (.istore 5, 2) := by decide +kernel
theorem dX1_solve_78 : decode cX1_solve 78 = .ok (.iinc 6 1, 3) := by decide +kernel
theorem dX1_solve_81 : decode cX1_solve 81 = .ok (.goto (-36), 3) := by decide +kernel
theorem dX1_solve_84 : decode cX1_solve 84 = .ok (.aload_n 0, 1) := by decide +kernel
theorem dX1_solve_85 : decode cX1_solve 85 = .ok (.getfield 15, 3) := by decide +kernel
theorem dX1_solve_88 : decode cX1_solve 88 = .ok (.iload_n 2, 1) := by decide +kernel
theorem dX1_solve_89 : decode cX1_solve 89 = .ok (.iload 5, 2) := by decide +kernel
theorem dX1_solve_91 : decode cX1_solve 91 = .ok (.iastore, 1) := by decide +kernel
theorem dX1_solve_92 : decode cX1_solve 92 = .ok (.iinc 2 1, 3) := by decide +kernel
theorem dX1_solve_95 : decode cX1_solve 95 = .ok (.goto (-86), 3) := by decide +kernel
theorem dX1_solve_98 : decode cX1_solve 98 = .ok (.return_, 1) := by decide +kernel
theorem dX1_total_0 : decode cX1_total 0 = .ok (.aload_n 0, 1) := by decide +kernel
theorem dX1_total_1 : decode cX1_total 1 = .ok (.getfield 15, 3) := by decide +kernel
theorem dX1_total_4 : decode cX1_total 4 = .ok (.iload_n 1, 1) := by decide +kernel
theorem dX1_total_5 : decode cX1_total 5 = .ok (.invokestatic 22, 3) := by decide +kernel
theorem dX1_total_8 : decode cX1_total 8 = .ok (.iaload, 1) := by decide +kernel
theorem dX1_total_9 : decode cX1_total 9 = .ok (.ireturn, 1) := by decide +kernel
theorem dX1_mateOf_0 : decode cX1_mateOf 0 = .ok (.iload_n 2, 1) := by decide +kernel
theorem dX1_mateOf_1 : decode cX1_mateOf 1 = .ok (.invokestatic 22, 3) := by decide +kernel
theorem dX1_mateOf_4 : decode cX1_mateOf 4 = .ok (.istore_n 3, 1) := by decide +kernel
theorem dX1_mateOf_5 : decode cX1_mateOf 5 = .ok (.iconst 0, 1) := by decide +kernel
theorem dX1_mateOf_6 : decode cX1_mateOf 6 = .ok (.istore 4, 2) := by decide +kernel
theorem dX1_mateOf_8 : decode cX1_mateOf 8 = .ok (.iload 4, 2) := by decide +kernel
theorem dX1_mateOf_10 : decode cX1_mateOf 10 = .ok (.iload_n 2, 1) := by decide +kernel
theorem dX1_mateOf_11 : decode cX1_mateOf 11 = .ok (.if_icmp .ge 84, 3) := by decide +kernel
theorem dX1_mateOf_14 : decode cX1_mateOf 14 = .ok (.iload_n 3, 1) := by decide +kernel
theorem dX1_mateOf_15 : decode cX1_mateOf 15 = .ok (.ifCond .eq 80, 3) := by decide +kernel
theorem dX1_mateOf_18 : decode cX1_mateOf 18 = .ok (.iload_n 3, 1) := by decide +kernel
theorem dX1_mateOf_19 : decode cX1_mateOf 19 = .ok (.invokestatic 26, 3) := by decide +kernel
theorem dX1_mateOf_22 : decode cX1_mateOf 22 = .ok (.istore 5, 2) := by decide +kernel
theorem dX1_mateOf_24 : decode cX1_mateOf 24 = .ok (.iload_n 3, 1) := by decide +kernel
theorem dX1_mateOf_25 : decode cX1_mateOf 25 = .ok (.iconst 1, 1) := by decide +kernel
theorem dX1_mateOf_26 : decode cX1_mateOf 26 = .ok (.iload 5, 2) := by decide +kernel
theorem dX1_mateOf_28 : decode cX1_mateOf 28 = .ok (.ishl, 1) := by decide +kernel
theorem dX1_mateOf_29 : decode cX1_mateOf 29 = .ok (.iconst (-1), 1) := by decide +kernel
theorem dX1_mateOf_30 : decode cX1_mateOf 30 = .ok (.ixor, 1) := by decide +kernel
theorem dX1_mateOf_31 : decode cX1_mateOf 31 = .ok (.iand, 1) := by decide +kernel
theorem dX1_mateOf_32 : decode cX1_mateOf 32 = .ok (.istore 6, 2) := by decide +kernel
theorem dX1_mateOf_34 : decode cX1_mateOf 34 = .ok (.aload_n 0, 1) := by decide +kernel
theorem dX1_mateOf_35 : decode cX1_mateOf 35 = .ok (.iload 5, 2) := by decide +kernel
theorem dX1_mateOf_37 : decode cX1_mateOf 37 = .ok (.iload 6, 2) := by decide +kernel
theorem dX1_mateOf_39 : decode cX1_mateOf 39 = .ok (.aload_n 0, 1) := by decide +kernel
theorem dX1_mateOf_40 : decode cX1_mateOf 40 = .ok (.getfield 15, 3) := by decide +kernel
theorem dX1_mateOf_43 : decode cX1_mateOf 43 = .ok (.iload_n 3, 1) := by decide +kernel
theorem dX1_mateOf_44 : decode cX1_mateOf 44 = .ok (.iaload, 1) := by decide +kernel
theorem dX1_mateOf_45 : decode cX1_mateOf 45 = .ok (.invokevirtual 38, 3) := by decide +kernel
theorem dX1_mateOf_48 : decode cX1_mateOf 48 = .ok (.istore 7, 2) := by decide +kernel
theorem dX1_mateOf_50 : decode cX1_mateOf 50 = .ok (.iload 5, 2) := by decide +kernel
theorem dX1_mateOf_52 : decode cX1_mateOf 52 = .ok (.iload_n 1, 1) := by decide +kernel
theorem dX1_mateOf_53 : decode cX1_mateOf 53 = .ok (.if_icmp .ne 6, 3) := by decide +kernel
theorem dX1_mateOf_56 : decode cX1_mateOf 56 = .ok (.iload 7, 2) := by decide +kernel
theorem dX1_mateOf_58 : decode cX1_mateOf 58 = .ok (.ireturn, 1) := by decide +kernel
theorem dX1_mateOf_59 : decode cX1_mateOf 59 = .ok (.iload 7, 2) := by decide +kernel
theorem dX1_mateOf_61 : decode cX1_mateOf 61 = .ok (.iload_n 1, 1) := by decide +kernel
theorem dX1_mateOf_62 : decode cX1_mateOf 62 = .ok (.if_icmp .ne 6, 3) := by decide +kernel
theorem dX1_mateOf_65 : decode cX1_mateOf 65 = .ok (.iload 5, 2) := by decide +kernel
theorem dX1_mateOf_67 : decode cX1_mateOf 67 = .ok (.ireturn, 1) := by decide +kernel
theorem dX1_mateOf_68 : decode cX1_mateOf 68 = .ok (.iload 7, 2) := by decide +kernel
theorem dX1_mateOf_70 : decode cX1_mateOf 70 = .ok (.iconst (-1), 1) := by decide +kernel
theorem dX1_mateOf_71 : decode cX1_mateOf 71 = .ok (.if_icmp .ne 8, 3) := by decide +kernel
theorem dX1_mateOf_74 : decode cX1_mateOf 74 = .ok (.iload 6, 2) := by decide +kernel
theorem dX1_mateOf_76 : decode cX1_mateOf 76 = .ok (.goto 12, 3) := by decide +kernel
theorem dX1_mateOf_79 : decode cX1_mateOf 79 = .ok (.iload 6, 2) := by decide +kernel
theorem dX1_mateOf_81 : decode cX1_mateOf 81 = .ok (.iconst 1, 1) := by decide +kernel
theorem dX1_mateOf_82 : decode cX1_mateOf 82 = .ok (.iload 7, 2) := by decide +kernel
theorem dX1_mateOf_84 : decode cX1_mateOf 84 = .ok (.ishl, 1) := by decide +kernel
theorem dX1_mateOf_85 : decode cX1_mateOf 85 = .ok (.iconst (-1), 1) := by decide +kernel
theorem dX1_mateOf_86 : decode cX1_mateOf 86 = .ok (.ixor, 1) := by decide +kernel
theorem dX1_mateOf_87 : decode cX1_mateOf 87 = .ok (.iand, 1) := by decide +kernel
theorem dX1_mateOf_88 : decode cX1_mateOf 88 = .ok (.istore_n 3, 1) := by decide +kernel
theorem dX1_mateOf_89 : decode cX1_mateOf 89 = .ok (.iinc 4 1, 3) := by decide +kernel
theorem dX1_mateOf_92 : decode cX1_mateOf 92 = .ok (.goto (-84), 3) := by decide +kernel
theorem dX1_mateOf_95 : decode cX1_mateOf 95 = .ok (.iconst (-1), 1) := by decide +kernel
theorem dX1_mateOf_96 : decode cX1_mateOf 96 = .ok (.ireturn, 1) := by decide +kernel
theorem dX1_leastMate_0 : decode cX1_leastMate 0 = .ok (.iload_n 1, 1) := by decide +kernel
theorem dX1_leastMate_1 : decode cX1_leastMate 1 = .ok (.iconst 1, 1) := by decide +kernel
theorem dX1_leastMate_2 : decode cX1_leastMate 2 = .ok (.iadd, 1) := by decide +kernel
theorem dX1_leastMate_3 : decode cX1_leastMate 3 = .ok (.istore 4, 2) := by decide +kernel
theorem dX1_leastMate_5 : decode cX1_leastMate 5 = .ok (.iload 4, 2) := by decide +kernel
theorem dX1_leastMate_7 : decode cX1_leastMate 7 = .ok (.bipush 8, 2) := by decide +kernel
theorem dX1_leastMate_9 : decode cX1_leastMate 9 = .ok (.if_icmp .ge 34, 3) := by decide +kernel
theorem dX1_leastMate_12 : decode cX1_leastMate 12 = .ok (.iload_n 2, 1) := by decide +kernel
theorem dX1_leastMate_13 : decode cX1_leastMate 13 = .ok (.iload 4, 2) := by decide +kernel
theorem dX1_leastMate_15 : decode cX1_leastMate 15 = .ok (.ishr, 1) := by decide +kernel
theorem dX1_leastMate_16 : decode cX1_leastMate 16 = .ok (.iconst 1, 1) := by decide +kernel
theorem dX1_leastMate_17 : decode cX1_leastMate 17 = .ok (.iand, 1) := by decide +kernel
theorem dX1_leastMate_18 : decode cX1_leastMate 18 = .ok (.iconst 1, 1) := by decide +kernel
theorem dX1_leastMate_19 : decode cX1_leastMate 19 = .ok (.if_icmp .ne 18, 3) := by decide +kernel
theorem dX1_leastMate_22 : decode cX1_leastMate 22 = .ok (.aload_n 0, 1) := by decide +kernel
theorem dX1_leastMate_23 : decode cX1_leastMate 23 = .ok (.iload_n 1, 1) := by decide +kernel
theorem dX1_leastMate_24 : decode cX1_leastMate 24 = .ok (.iload 4, 2) := by decide +kernel
theorem dX1_leastMate_26 : decode cX1_leastMate 26 = .ok (.iload_n 2, 1) := by decide +kernel
theorem dX1_leastMate_27 : decode cX1_leastMate 27 = .ok (.invokevirtual 29, 3) := by decide +kernel
theorem dX1_leastMate_30 : decode cX1_leastMate 30 = .ok (.iload_n 3, 1) := by decide +kernel
theorem dX1_leastMate_31 : decode cX1_leastMate 31 = .ok (.if_icmp .ne 6, 3) := by decide +kernel
theorem dX1_leastMate_34 : decode cX1_leastMate 34 = .ok (.iload 4, 2) := by decide +kernel
theorem dX1_leastMate_36 : decode cX1_leastMate 36 = .ok (.ireturn, 1) := by decide +kernel
theorem dX1_leastMate_37 : decode cX1_leastMate 37 = .ok (.iinc 4 1, 3) := by decide +kernel
theorem dX1_leastMate_40 : decode cX1_leastMate 40 = .ok (.goto (-35), 3) := by decide +kernel
theorem dX1_leastMate_43 : decode cX1_leastMate 43 = .ok (.iconst (-1), 1) := by decide +kernel
theorem dX1_leastMate_44 : decode cX1_leastMate 44 = .ok (.ireturn, 1) := by decide +kernel
theorem dX1_together_0 : decode cX1_together 0 = .ok (.aload_n 0, 1) := by decide +kernel
theorem dX1_together_1 : decode cX1_together 1 = .ok (.getfield 9, 3) := by decide +kernel
theorem dX1_together_4 : decode cX1_together 4 = .ok (.iload_n 1, 1) := by decide +kernel
theorem dX1_together_5 : decode cX1_together 5 = .ok (.iload_n 2, 1) := by decide +kernel
theorem dX1_together_6 : decode cX1_together 6 = .ok (.invokestatic 18, 3) := by decide +kernel
theorem dX1_together_9 : decode cX1_together 9 = .ok (.iaload, 1) := by decide +kernel
theorem dX1_together_10 : decode cX1_together 10 = .ok (.aload_n 0, 1) := by decide +kernel
theorem dX1_together_11 : decode cX1_together 11 = .ok (.getfield 15, 3) := by decide +kernel
theorem dX1_together_14 : decode cX1_together 14 = .ok (.iload_n 3, 1) := by decide +kernel
theorem dX1_together_15 : decode cX1_together 15 = .ok (.iconst 1, 1) := by decide +kernel
theorem dX1_together_16 : decode cX1_together 16 = .ok (.iload_n 2, 1) := by decide +kernel
theorem dX1_together_17 : decode cX1_together 17 = .ok (.ishl, 1) := by decide +kernel
theorem dX1_together_18 : decode cX1_together 18 = .ok (.iconst (-1), 1) := by decide +kernel
theorem dX1_together_19 : decode cX1_together 19 = .ok (.ixor, 1) := by decide +kernel
theorem dX1_together_20 : decode cX1_together 20 = .ok (.iand, 1) := by decide +kernel
theorem dX1_together_21 : decode cX1_together 21 = .ok (.iaload, 1) := by decide +kernel
theorem dX1_together_22 : decode cX1_together 22 = .ok (.iadd, 1) := by decide +kernel
theorem dX1_together_23 : decode cX1_together 23 = .ok (.ireturn, 1) := by decide +kernel
theorem dX1_everybody_0 : decode cX1_everybody 0 = .ok (.iconst 1, 1) := by decide +kernel
theorem dX1_everybody_1 : decode cX1_everybody 1 = .ok (.iload_n 0, 1) := by decide +kernel
theorem dX1_everybody_2 : decode cX1_everybody 2 = .ok (.ishl, 1) := by decide +kernel
theorem dX1_everybody_3 : decode cX1_everybody 3 = .ok (.iconst 1, 1) := by decide +kernel
theorem dX1_everybody_4 : decode cX1_everybody 4 = .ok (.isub, 1) := by decide +kernel
theorem dX1_everybody_5 : decode cX1_everybody 5 = .ok (.ireturn, 1) := by decide +kernel
theorem dX1_leastOf_0 : decode cX1_leastOf 0 = .ok (.iconst 0, 1) := by decide +kernel
theorem dX1_leastOf_1 : decode cX1_leastOf 1 = .ok (.istore_n 1, 1) := by decide +kernel
theorem dX1_leastOf_2 : decode cX1_leastOf 2 = .ok (.iload_n 1, 1) := by decide +kernel
theorem dX1_leastOf_3 : decode cX1_leastOf 3 = .ok (.bipush 7, 2) := by decide +kernel
theorem dX1_leastOf_5 : decode cX1_leastOf 5 = .ok (.if_icmp .ge 17, 3) := by decide +kernel
theorem dX1_leastOf_8 : decode cX1_leastOf 8 = .ok (.iload_n 0, 1) := by decide +kernel
theorem dX1_leastOf_9 : decode cX1_leastOf 9 = .ok (.iload_n 1, 1) := by decide +kernel
theorem dX1_leastOf_10 : decode cX1_leastOf 10 = .ok (.ishr, 1) := by decide +kernel
theorem dX1_leastOf_11 : decode cX1_leastOf 11 = .ok (.iconst 1, 1) := by decide +kernel
theorem dX1_leastOf_12 : decode cX1_leastOf 12 = .ok (.iand, 1) := by decide +kernel
theorem dX1_leastOf_13 : decode cX1_leastOf 13 = .ok (.ifCond .ne 9, 3) := by decide +kernel
theorem dX1_leastOf_16 : decode cX1_leastOf 16 = .ok (.iinc 1 1, 3) := by decide +kernel
theorem dX1_leastOf_19 : decode cX1_leastOf 19 = .ok (.goto (-17), 3) := by decide +kernel
theorem dX1_leastOf_22 : decode cX1_leastOf 22 = .ok (.iload_n 1, 1) := by decide +kernel
theorem dX1_leastOf_23 : decode cX1_leastOf 23 = .ok (.ireturn, 1) := by decide +kernel
theorem dX2_init_0 : decode cX2_init 0 = .ok (.aload_n 0, 1) := by decide +kernel
theorem dX2_init_1 : decode cX2_init 1 = .ok (.invokespecial 3, 3) := by decide +kernel
theorem dX2_init_4 : decode cX2_init 4 = .ok (.aload_n 0, 1) := by decide +kernel
theorem dX2_init_5 : decode cX2_init 5 = .ok (.bipush 120, 2) := by decide +kernel
theorem dX2_init_7 : decode cX2_init 7 = .ok (.newarray .int, 2) := by decide +kernel
theorem dX2_init_9 : decode cX2_init 9 = .ok (.putfield 9, 3) := by decide +kernel
theorem dX2_init_12 : decode cX2_init 12 = .ok (.aload_n 0, 1) := by decide +kernel
theorem dX2_init_13 : decode cX2_init 13 = .ok (.iconst 0, 1) := by decide +kernel
theorem dX2_init_14 : decode cX2_init 14 = .ok (.putfield 15, 3) := by decide +kernel
theorem dX2_init_17 : decode cX2_init 17 = .ok (.aload_n 0, 1) := by decide +kernel
theorem dX2_init_18 : decode cX2_init 18 = .ok (.iconst 0, 1) := by decide +kernel
theorem dX2_init_19 : decode cX2_init 19 = .ok (.putfield 19, 3) := by decide +kernel
theorem dX2_init_22 : decode cX2_init 22 = .ok (.aload_n 0, 1) := by decide +kernel
theorem dX2_init_23 : decode cX2_init 23 = .ok (.iconst 0, 1) := by decide +kernel
theorem dX2_init_24 : decode cX2_init 24 = .ok (.putfield 22, 3) := by decide +kernel
theorem dX2_init_27 : decode cX2_init 27 = .ok (.aload_n 0, 1) := by decide +kernel
theorem dX2_init_28 : decode cX2_init 28 = .ok (.iconst 0, 1) := by decide +kernel
theorem dX2_init_29 : decode cX2_init 29 = .ok (.putfield 25, 3) := by decide +kernel
theorem dX2_init_32 : decode cX2_init 32 = .ok (.aload_n 0, 1) := by decide +kernel
theorem dX2_init_33 : decode cX2_init 33 = .ok (.iconst 0, 1) := by decide +kernel
theorem dX2_init_34 : decode cX2_init 34 = .ok (.putfield 28, 3) := by decide +kernel
theorem dX2_init_37 : decode cX2_init 37 = .ok (.return_, 1) := by decide +kernel
theorem dX2_append_0 : decode cX2_append 0 = .ok (.aload_n 0, 1) := by decide +kernel
theorem dX2_append_1 : decode cX2_append 1 = .ok (.getfield 15, 3) := by decide +kernel
theorem dX2_append_4 : decode cX2_append 4 = .ok (.bipush 120, 2) := by decide +kernel
theorem dX2_append_6 : decode cX2_append 6 = .ok (.if_icmp .ge 23, 3) := by decide +kernel
theorem dX2_append_9 : decode cX2_append 9 = .ok (.aload_n 0, 1) := by decide +kernel
theorem dX2_append_10 : decode cX2_append 10 = .ok (.getfield 9, 3) := by decide +kernel
theorem dX2_append_13 : decode cX2_append 13 = .ok (.aload_n 0, 1) := by decide +kernel
theorem dX2_append_14 : decode cX2_append 14 = .ok (.getfield 15, 3) := by decide +kernel
theorem dX2_append_17 : decode cX2_append 17 = .ok (.iload_n 1, 1) := by decide +kernel
theorem dX2_append_18 : decode cX2_append 18 = .ok (.iastore, 1) := by decide +kernel
theorem dX2_append_19 : decode cX2_append 19 = .ok (.aload_n 0, 1) := by decide +kernel
theorem dX2_append_20 : decode cX2_append 20 = .ok (.dup, 1) := by decide +kernel
theorem dX2_append_21 : decode cX2_append 21 = .ok (.getfield 15, 3) := by decide +kernel
theorem dX2_append_24 : decode cX2_append 24 = .ok (.iconst 1, 1) := by decide +kernel
theorem dX2_append_25 : decode cX2_append 25 = .ok (.iadd, 1) := by decide +kernel
theorem dX2_append_26 : decode cX2_append 26 = .ok (.putfield 15, 3) := by decide +kernel
theorem dX2_append_29 : decode cX2_append 29 = .ok (.return_, 1) := by decide +kernel
theorem dX2_readInto_0 : decode cX2_readInto 0 = .ok (.aload_n 0, 1) := by decide +kernel
theorem dX2_readInto_1 : decode cX2_readInto 1 = .ok (.iconst 0, 1) := by decide +kernel
theorem dX2_readInto_2 : decode cX2_readInto 2 = .ok (.putfield 25, 3) := by decide +kernel
theorem dX2_readInto_5 : decode cX2_readInto 5 = .ok (.aload_n 0, 1) := by decide +kernel
theorem dX2_readInto_6 : decode cX2_readInto 6 = .ok (.invokevirtual 31, 3) := by decide +kernel
theorem dX2_readInto_9 : decode cX2_readInto 9 = .ok (.iconst 1, 1) := by decide +kernel
theorem dX2_readInto_10 : decode cX2_readInto 10 = .ok (.istore_n 2, 1) := by decide +kernel
theorem dX2_readInto_11 : decode cX2_readInto 11 = .ok (.iload_n 2, 1) := by decide +kernel
theorem dX2_readInto_12 : decode cX2_readInto 12 = .ok (.bipush 120, 2) := by decide +kernel
theorem dX2_readInto_14 : decode cX2_readInto 14 = .ok (.if_icmp .gt 53, 3) := by decide +kernel
theorem dX2_readInto_17 : decode cX2_readInto 17 = .ok (.aload_n 0, 1) := by decide +kernel
theorem dX2_readInto_18 : decode cX2_readInto 18 = .ok (.aload_n 1, 1) := by decide +kernel
theorem dX2_readInto_19 : decode cX2_readInto 19 = .ok (.invokevirtual 34, 3) := by decide +kernel
theorem dX2_readInto_22 : decode cX2_readInto 22 = .ok (.ifCond .ne 10, 3) := by decide +kernel
theorem dX2_readInto_25 : decode cX2_readInto 25 = .ok (.iconst (-1), 1) := by decide +kernel
theorem dX2_readInto_26 : decode cX2_readInto 26 = .ok (.aload_n 0, 1) := by decide +kernel
theorem dX2_readInto_27 : decode cX2_readInto 27 = .ok (.getfield 22, 3) := by decide +kernel
theorem dX2_readInto_30 : decode cX2_readInto 30 = .ok (.isub, 1) := by decide +kernel
theorem dX2_readInto_31 : decode cX2_readInto 31 = .ok (.ireturn, 1) := by decide +kernel
theorem dX2_readInto_32 : decode cX2_readInto 32 = .ok (.aload_n 0, 1) := by decide +kernel
theorem dX2_readInto_33 : decode cX2_readInto 33 = .ok (.getfield 19, 3) := by decide +kernel
theorem dX2_readInto_36 : decode cX2_readInto 36 = .ok (.ifCond .ne 5, 3) := by decide +kernel
theorem dX2_readInto_39 : decode cX2_readInto 39 = .ok (.iload_n 2, 1) := by decide +kernel
theorem dX2_readInto_40 : decode cX2_readInto 40 = .ok (.ireturn, 1) := by decide +kernel
theorem dX2_readInto_41 : decode cX2_readInto 41 = .ok (.aload_n 0, 1) := by decide +kernel
theorem dX2_readInto_42 : decode cX2_readInto 42 = .ok (.bipush 59, 2) := by decide +kernel
theorem dX2_readInto_44 : decode cX2_readInto 44 = .ok (.invokevirtual 38, 3) := by decide +kernel
theorem dX2_readInto_47 : decode cX2_readInto 47 = .ok (.ifCond .ne 10, 3) := by decide +kernel
theorem dX2_readInto_50 : decode cX2_readInto 50 = .ok (.iconst (-1), 1) := by decide +kernel
theorem dX2_readInto_51 : decode cX2_readInto 51 = .ok (.aload_n 0, 1) := by decide +kernel
theorem dX2_readInto_52 : decode cX2_readInto 52 = .ok (.getfield 22, 3) := by decide +kernel
theorem dX2_readInto_55 : decode cX2_readInto 55 = .ok (.isub, 1) := by decide +kernel
theorem dX2_readInto_56 : decode cX2_readInto 56 = .ok (.ireturn, 1) := by decide +kernel
theorem dX2_readInto_57 : decode cX2_readInto 57 = .ok (.aload_n 0, 1) := by decide +kernel
theorem dX2_readInto_58 : decode cX2_readInto 58 = .ok (.invokevirtual 31, 3) := by decide +kernel
theorem dX2_readInto_61 : decode cX2_readInto 61 = .ok (.iinc 2 1, 3) := by decide +kernel
theorem dX2_readInto_64 : decode cX2_readInto 64 = .ok (.goto (-53), 3) := by decide +kernel
theorem dX2_readInto_67 : decode cX2_readInto 67 = .ok (.iconst (-1), 1) := by decide +kernel
theorem dX2_readInto_68 : decode cX2_readInto 68 = .ok (.aload_n 0, 1) := by decide +kernel
theorem dX2_readInto_69 : decode cX2_readInto 69 = .ok (.getfield 22, 3) := by decide +kernel
theorem dX2_readInto_72 : decode cX2_readInto 72 = .ok (.isub, 1) := by decide +kernel
theorem dX2_readInto_73 : decode cX2_readInto 73 = .ok (.ireturn, 1) := by decide +kernel
theorem dX2_readItem_0 : decode cX2_readItem 0 = .ok (.iconst 0, 1) := by decide +kernel
theorem dX2_readItem_1 : decode cX2_readItem 1 = .ok (.istore_n 2, 1) := by decide +kernel
theorem dX2_readItem_2 : decode cX2_readItem 2 = .ok (.iload_n 2, 1) := by decide +kernel
theorem dX2_readItem_3 : decode cX2_readItem 3 = .ok (.bipush 7, 2) := by decide +kernel
theorem dX2_readItem_5 : decode cX2_readItem 5 = .ok (.if_icmp .ge 27, 3) := by decide +kernel
theorem dX2_readItem_8 : decode cX2_readItem 8 = .ok (.aload_n 0, 1) := by decide +kernel
theorem dX2_readItem_9 : decode cX2_readItem 9 = .ok (.iload_n 2, 1) := by decide +kernel
theorem dX2_readItem_10 : decode cX2_readItem 10 = .ok (.invokestatic 42, 3) := by decide +kernel
theorem dX2_readItem_13 : decode cX2_readItem 13 = .ok (.invokevirtual 48, 3) := by decide +kernel
theorem dX2_readItem_16 : decode cX2_readItem 16 = .ok (.ifCond .eq 10, 3) := by decide +kernel
theorem dX2_readItem_19 : decode cX2_readItem 19 = .ok (.aload_n 0, 1) := by decide +kernel
theorem dX2_readItem_20 : decode cX2_readItem 20 = .ok (.aload_n 1, 1) := by decide +kernel
theorem dX2_readItem_21 : decode cX2_readItem 21 = .ok (.iload_n 2, 1) := by decide +kernel
theorem dX2_readItem_22 : decode cX2_readItem 22 = .ok (.invokevirtual 52, 3) := by decide +kernel
theorem dX2_readItem_25 : decode cX2_readItem 25 = .ok (.ireturn, 1) := by decide +kernel
theorem dX2_readItem_26 : decode cX2_readItem 26 = .ok (.iinc 2 1, 3) := by decide +kernel
theorem dX2_readItem_29 : decode cX2_readItem 29 = .ok (.goto (-27), 3) := by decide +kernel
theorem dX2_readItem_32 : decode cX2_readItem 32 = .ok (.aload_n 0, 1) := by decide +kernel
theorem dX2_readItem_33 : decode cX2_readItem 33 = .ok (.ldc 56, 2) := by decide +kernel
theorem dX2_readItem_35 : decode cX2_readItem 35 = .ok (.invokevirtual 48, 3) := by decide +kernel
theorem dX2_readItem_38 : decode cX2_readItem 38 = .ok (.ifCond .eq 9, 3) := by decide +kernel
theorem dX2_readItem_41 : decode cX2_readItem 41 = .ok (.aload_n 0, 1) := by decide +kernel
theorem dX2_readItem_42 : decode cX2_readItem 42 = .ok (.aload_n 1, 1) := by decide +kernel
theorem dX2_readItem_43 : decode cX2_readItem 43 = .ok (.invokevirtual 58, 3) := by decide +kernel
theorem dX2_readItem_46 : decode cX2_readItem 46 = .ok (.ireturn, 1) := by decide +kernel
theorem dX2_readItem_47 : decode cX2_readItem 47 = .ok (.aload_n 0, 1) := by decide +kernel
theorem dX2_readItem_48 : decode cX2_readItem 48 = .ok (.ldc 61, 2) := by decide +kernel
theorem dX2_readItem_50 : decode cX2_readItem 50 = .ok (.invokevirtual 48, 3) := by decide +kernel
theorem dX2_readItem_53 : decode cX2_readItem 53 = .ok (.ifCond .eq 15, 3) := by decide +kernel
theorem dX2_readItem_56 : decode cX2_readItem 56 = .ok (.aload_n 0, 1) := by decide +kernel
theorem dX2_readItem_57 : decode cX2_readItem 57 = .ok (.aload_n 1, 1) := by decide +kernel
theorem dX2_readItem_58 : decode cX2_readItem 58 = .ok (.invokevirtual 63, 3) := by decide +kernel
theorem dX2_readItem_61 : decode cX2_readItem 61 = .ok (.ifCond .eq 7, 3) := by decide +kernel
theorem dX2_readItem_64 : decode cX2_readItem 64 = .ok (.iconst 1, 1) := by decide +kernel
theorem dX2_readItem_65 : decode cX2_readItem 65 = .ok (.goto 4, 3) := by decide +kernel
theorem dX2_readItem_68 : decode cX2_readItem 68 = .ok (.iconst 0, 1) := by decide +kernel
theorem dX2_readItem_69 : decode cX2_readItem 69 = .ok (.ireturn, 1) := by decide +kernel
theorem dX2_readPerson_0 : decode cX2_readPerson 0 = .ok (.aload_n 1, 1) := by decide +kernel
theorem dX2_readPerson_1 : decode cX2_readPerson 1 = .ok (.invokevirtual 66, 3) := by decide +kernel
theorem dX2_readPerson_4 : decode cX2_readPerson 4 = .ok (.ifCond .eq 5, 3) := by decide +kernel
theorem dX2_readPerson_7 : decode cX2_readPerson 7 = .ok (.iconst 0, 1) := by decide +kernel
theorem dX2_readPerson_8 : decode cX2_readPerson 8 = .ok (.ireturn, 1) := by decide +kernel
theorem dX2_readPerson_9 : decode cX2_readPerson 9 = .ok (.aload_n 1, 1) := by decide +kernel
theorem dX2_readPerson_10 : decode cX2_readPerson 10 = .ok (.iload_n 2, 1) := by decide +kernel
theorem dX2_readPerson_11 : decode cX2_readPerson 11 = .ok (.invokevirtual 72, 3) := by decide +kernel
theorem dX2_readPerson_14 : decode cX2_readPerson 14 = .ok (.istore_n 3, 1) := by decide +kernel
theorem dX2_readPerson_15 : decode cX2_readPerson 15 = .ok (.aload_n 0, 1) := by decide +kernel
theorem dX2_readPerson_16 : decode cX2_readPerson 16 = .ok (.invokevirtual 31, 3) := by decide +kernel
theorem dX2_readPerson_19 : decode cX2_readPerson 19 = .ok (.aload_n 0, 1) := by decide +kernel
theorem dX2_readPerson_20 : decode cX2_readPerson 20 = .ok (.ldc 76, 2) := by decide +kernel
theorem dX2_readPerson_22 : decode cX2_readPerson 22 = .ok (.invokevirtual 48, 3) := by decide +kernel
theorem dX2_readPerson_25 : decode cX2_readPerson 25 = .ok (.ifCond .eq 32, 3) := by decide +kernel
theorem dX2_readPerson_28 : decode cX2_readPerson 28 = .ok (.aload_n 0, 1) := by decide +kernel
theorem dX2_readPerson_29 : decode cX2_readPerson 29 = .ok (.invokevirtual 31, 3) := by decide +kernel
theorem dX2_readPerson_32 : decode cX2_readPerson 32 = .ok (.aload_n 0, 1) := by decide +kernel
theorem dX2_readPerson_33 : decode cX2_readPerson 33 = .ok (.bipush 9, 2) := by decide +kernel
theorem dX2_readPerson_35 : decode cX2_readPerson 35 = .ok (.invokevirtual 78, 3) := by decide +kernel
theorem dX2_readPerson_38 : decode cX2_readPerson 38 = .ok (.ifCond .ne 5, 3) := by decide +kernel
theorem dX2_readPerson_41 : decode cX2_readPerson 41 = .ok (.iconst 0, 1) := by decide +kernel
theorem dX2_readPerson_42 : decode cX2_readPerson 42 = .ok (.ireturn, 1) := by decide +kernel
theorem dX2_readPerson_43 : decode cX2_readPerson 43 = .ok (.aload_n 1, 1) := by decide +kernel
theorem dX2_readPerson_44 : decode cX2_readPerson 44 = .ok (.iload_n 3, 1) := by decide +kernel
theorem dX2_readPerson_45 : decode cX2_readPerson 45 = .ok (.iconst 1, 1) := by decide +kernel
theorem dX2_readPerson_46 : decode cX2_readPerson 46 = .ok (.aload_n 0, 1) := by decide +kernel
theorem dX2_readPerson_47 : decode cX2_readPerson 47 = .ok (.getfield 28, 3) := by decide +kernel
theorem dX2_readPerson_50 : decode cX2_readPerson 50 = .ok (.invokevirtual 81, 3) := by decide +kernel
theorem dX2_readPerson_53 : decode cX2_readPerson 53 = .ok (.aload_n 0, 1) := by decide +kernel
theorem dX2_readPerson_54 : decode cX2_readPerson 54 = .ok (.invokevirtual 31, 3) := by decide +kernel
theorem dX2_readPerson_57 : decode cX2_readPerson 57 = .ok (.aload_n 0, 1) := by decide +kernel
theorem dX2_readPerson_58 : decode cX2_readPerson 58 = .ok (.ldc 85, 2) := by decide +kernel
theorem dX2_readPerson_60 : decode cX2_readPerson 60 = .ok (.invokevirtual 48, 3) := by decide +kernel
theorem dX2_readPerson_63 : decode cX2_readPerson 63 = .ok (.ifCond .eq 14, 3) := by decide +kernel
theorem dX2_readPerson_66 : decode cX2_readPerson 66 = .ok (.aload_n 0, 1) := by decide +kernel
theorem dX2_readPerson_67 : decode cX2_readPerson 67 = .ok (.invokevirtual 31, 3) := by decide +kernel
theorem dX2_readPerson_70 : decode cX2_readPerson 70 = .ok (.aload_n 0, 1) := by decide +kernel
theorem dX2_readPerson_71 : decode cX2_readPerson 71 = .ok (.aload_n 1, 1) := by decide +kernel
theorem dX2_readPerson_72 : decode cX2_readPerson 72 = .ok (.iload_n 3, 1) := by decide +kernel
theorem dX2_readPerson_73 : decode cX2_readPerson 73 = .ok (.invokevirtual 87, 3) := by decide +kernel
theorem dX2_readPerson_76 : decode cX2_readPerson 76 = .ok (.ireturn, 1) := by decide +kernel
theorem dX2_readPerson_77 : decode cX2_readPerson 77 = .ok (.iconst 1, 1) := by decide +kernel
theorem dX2_readPerson_78 : decode cX2_readPerson 78 = .ok (.ireturn, 1) := by decide +kernel
theorem dX2_readViews_0 : decode cX2_readViews 0 = .ok (.iconst 0, 1) := by decide +kernel
theorem dX2_readViews_1 : decode cX2_readViews 1 = .ok (.istore_n 3, 1) := by decide +kernel
theorem dX2_readViews_2 : decode cX2_readViews 2 = .ok (.iload_n 3, 1) := by decide +kernel
theorem dX2_readViews_3 : decode cX2_readViews 3 = .ok (.bipush 6, 2) := by decide +kernel
theorem dX2_readViews_5 : decode cX2_readViews 5 = .ok (.if_icmp .ge 83, 3) := by decide +kernel
theorem dX2_readViews_8 : decode cX2_readViews 8 = .ok (.aload_n 0, 1) := by decide +kernel
theorem dX2_readViews_9 : decode cX2_readViews 9 = .ok (.bipush 45, 2) := by decide +kernel
theorem dX2_readViews_11 : decode cX2_readViews 11 = .ok (.invokevirtual 38, 3) := by decide +kernel
theorem dX2_readViews_14 : decode cX2_readViews 14 = .ok (.istore 4, 2) := by decide +kernel
theorem dX2_readViews_16 : decode cX2_readViews 16 = .ok (.iload_n 3, 1) := by decide +kernel
theorem dX2_readViews_17 : decode cX2_readViews 17 = .ok (.ifCond .le 18, 3) := by decide +kernel
theorem dX2_readViews_20 : decode cX2_readViews 20 = .ok (.iload 4, 2) := by decide +kernel
theorem dX2_readViews_22 : decode cX2_readViews 22 = .ok (.ifCond .ne 13, 3) := by decide +kernel
theorem dX2_readViews_25 : decode cX2_readViews 25 = .ok (.aload_n 0, 1) := by decide +kernel
theorem dX2_readViews_26 : decode cX2_readViews 26 = .ok (.getfield 19, 3) := by decide +kernel
theorem dX2_readViews_29 : decode cX2_readViews 29 = .ok (.iconst 2, 1) := by decide +kernel
theorem dX2_readViews_30 : decode cX2_readViews 30 = .ok (.if_icmp .eq 5, 3) := by decide +kernel
theorem dX2_readViews_33 : decode cX2_readViews 33 = .ok (.iconst 1, 1) := by decide +kernel
theorem dX2_readViews_34 : decode cX2_readViews 34 = .ok (.ireturn, 1) := by decide +kernel
theorem dX2_readViews_35 : decode cX2_readViews 35 = .ok (.iload 4, 2) := by decide +kernel
theorem dX2_readViews_37 : decode cX2_readViews 37 = .ok (.ifCond .eq 7, 3) := by decide +kernel
theorem dX2_readViews_40 : decode cX2_readViews 40 = .ok (.aload_n 0, 1) := by decide +kernel
theorem dX2_readViews_41 : decode cX2_readViews 41 = .ok (.invokevirtual 31, 3) := by decide +kernel
theorem dX2_readViews_44 : decode cX2_readViews 44 = .ok (.aload_n 0, 1) := by decide +kernel
theorem dX2_readViews_45 : decode cX2_readViews 45 = .ok (.bipush 9, 2) := by decide +kernel
theorem dX2_readViews_47 : decode cX2_readViews 47 = .ok (.invokevirtual 78, 3) := by decide +kernel
theorem dX2_readViews_50 : decode cX2_readViews 50 = .ok (.ifCond .ne 5, 3) := by decide +kernel
theorem dX2_readViews_53 : decode cX2_readViews 53 = .ok (.iconst 0, 1) := by decide +kernel
theorem dX2_readViews_54 : decode cX2_readViews 54 = .ok (.ireturn, 1) := by decide +kernel
theorem dX2_readViews_55 : decode cX2_readViews 55 = .ok (.aload_n 1, 1) := by decide +kernel
theorem dX2_readViews_56 : decode cX2_readViews 56 = .ok (.iload_n 2, 1) := by decide +kernel
theorem dX2_readViews_57 : decode cX2_readViews 57 = .ok (.iload_n 3, 1) := by decide +kernel
theorem dX2_readViews_58 : decode cX2_readViews 58 = .ok (.iload 4, 2) := by decide +kernel
theorem dX2_readViews_60 : decode cX2_readViews 60 = .ok (.ifCond .eq 11, 3) := by decide +kernel
theorem dX2_readViews_63 : decode cX2_readViews 63 = .ok (.aload_n 0, 1) := by decide +kernel
theorem dX2_readViews_64 : decode cX2_readViews 64 = .ok (.getfield 28, 3) := by decide +kernel
theorem dX2_readViews_67 : decode cX2_readViews 67 = .ok (.ineg, 1) := by decide +kernel
theorem dX2_readViews_68 : decode cX2_readViews 68 = .ok (.goto 7, 3) := by decide +kernel
theorem dX2_readViews_71 : decode cX2_readViews 71 = .ok (.aload_n 0, 1) := by decide +kernel
theorem dX2_readViews_72 : decode cX2_readViews 72 = .ok (.getfield 28, 3) := by decide +kernel
theorem dX2_readViews_75 : decode cX2_readViews 75 = .ok (.invokevirtual 90, 3) := by decide +kernel
theorem dX2_readViews_78 : decode cX2_readViews 78 = .ok (.aload_n 0, 1) := by decide +kernel
theorem dX2_readViews_79 : decode cX2_readViews 79 = .ok (.invokevirtual 31, 3) := by decide +kernel
theorem dX2_readViews_82 : decode cX2_readViews 82 = .ok (.iinc 3 1, 3) := by decide +kernel
theorem dX2_readViews_85 : decode cX2_readViews 85 = .ok (.goto (-83), 3) := by decide +kernel
theorem dX2_readViews_88 : decode cX2_readViews 88 = .ok (.iconst 1, 1) := by decide +kernel
theorem dX2_readViews_89 : decode cX2_readViews 89 = .ok (.ireturn, 1) := by decide +kernel
theorem dX2_readPair_0 : decode cX2_readPair 0 = .ok (.aload_n 0, 1) := by decide +kernel
theorem dX2_readPair_1 : decode cX2_readPair 1 = .ok (.invokevirtual 31, 3) := by decide +kernel
theorem dX2_readPair_4 : decode cX2_readPair 4 = .ok (.aload_n 0, 1) := by decide +kernel
theorem dX2_readPair_5 : decode cX2_readPair 5 = .ok (.aload_n 1, 1) := by decide +kernel
theorem dX2_readPair_6 : decode cX2_readPair 6 = .ok (.getfield 93, 3) := by decide +kernel
theorem dX2_readPair_9 : decode cX2_readPair 9 = .ok (.iconst 1, 1) := by decide +kernel
theorem dX2_readPair_10 : decode cX2_readPair 10 = .ok (.isub, 1) := by decide +kernel
theorem dX2_readPair_11 : decode cX2_readPair 11 = .ok (.invokevirtual 78, 3) := by decide +kernel
theorem dX2_readPair_14 : decode cX2_readPair 14 = .ok (.ifCond .ne 5, 3) := by decide +kernel
theorem dX2_readPair_17 : decode cX2_readPair 17 = .ok (.iconst 0, 1) := by decide +kernel
theorem dX2_readPair_18 : decode cX2_readPair 18 = .ok (.ireturn, 1) := by decide +kernel
theorem dX2_readPair_19 : decode cX2_readPair 19 = .ok (.aload_n 0, 1) := by decide +kernel
theorem dX2_readPair_20 : decode cX2_readPair 20 = .ok (.getfield 28, 3) := by decide +kernel
theorem dX2_readPair_23 : decode cX2_readPair 23 = .ok (.istore_n 2, 1) := by decide +kernel
theorem dX2_readPair_24 : decode cX2_readPair 24 = .ok (.aload_n 0, 1) := by decide +kernel
theorem dX2_readPair_25 : decode cX2_readPair 25 = .ok (.invokevirtual 31, 3) := by decide +kernel
theorem dX2_readPair_28 : decode cX2_readPair 28 = .ok (.aload_n 0, 1) := by decide +kernel
theorem dX2_readPair_29 : decode cX2_readPair 29 = .ok (.aload_n 1, 1) := by decide +kernel
theorem dX2_readPair_30 : decode cX2_readPair 30 = .ok (.getfield 93, 3) := by decide +kernel
theorem dX2_readPair_33 : decode cX2_readPair 33 = .ok (.iconst 1, 1) := by decide +kernel
theorem dX2_readPair_34 : decode cX2_readPair 34 = .ok (.isub, 1) := by decide +kernel
theorem dX2_readPair_35 : decode cX2_readPair 35 = .ok (.invokevirtual 78, 3) := by decide +kernel
theorem dX2_readPair_38 : decode cX2_readPair 38 = .ok (.ifCond .eq 11, 3) := by decide +kernel
theorem dX2_readPair_41 : decode cX2_readPair 41 = .ok (.aload_n 0, 1) := by decide +kernel
theorem dX2_readPair_42 : decode cX2_readPair 42 = .ok (.getfield 28, 3) := by decide +kernel
theorem dX2_readPair_45 : decode cX2_readPair 45 = .ok (.iload_n 2, 1) := by decide +kernel
theorem dX2_readPair_46 : decode cX2_readPair 46 = .ok (.if_icmp .ne 5, 3) := by decide +kernel
theorem dX2_readPair_49 : decode cX2_readPair 49 = .ok (.iconst 0, 1) := by decide +kernel
theorem dX2_readPair_50 : decode cX2_readPair 50 = .ok (.ireturn, 1) := by decide +kernel
theorem dX2_readPair_51 : decode cX2_readPair 51 = .ok (.aload_n 1, 1) := by decide +kernel
theorem dX2_readPair_52 : decode cX2_readPair 52 = .ok (.iload_n 2, 1) := by decide +kernel
theorem dX2_readPair_53 : decode cX2_readPair 53 = .ok (.aload_n 0, 1) := by decide +kernel
theorem dX2_readPair_54 : decode cX2_readPair 54 = .ok (.getfield 28, 3) := by decide +kernel
theorem dX2_readPair_57 : decode cX2_readPair 57 = .ok (.invokevirtual 96, 3) := by decide +kernel
theorem dX2_readPair_60 : decode cX2_readPair 60 = .ok (.aload_n 0, 1) := by decide +kernel
theorem dX2_readPair_61 : decode cX2_readPair 61 = .ok (.invokevirtual 31, 3) := by decide +kernel
theorem dX2_readPair_64 : decode cX2_readPair 64 = .ok (.iconst 1, 1) := by decide +kernel
theorem dX2_readPair_65 : decode cX2_readPair 65 = .ok (.ireturn, 1) := by decide +kernel
theorem dX2_readSubject_0 : decode cX2_readSubject 0 = .ok (.aload_n 0, 1) := by decide +kernel
theorem dX2_readSubject_1 : decode cX2_readSubject 1 = .ok (.invokevirtual 31, 3) := by decide +kernel
theorem dX2_readSubject_4 : decode cX2_readSubject 4 = .ok (.aload_n 0, 1) := by decide +kernel
theorem dX2_readSubject_5 : decode cX2_readSubject 5 = .ok (.iconst 5, 1) := by decide +kernel
theorem dX2_readSubject_6 : decode cX2_readSubject 6 = .ok (.invokevirtual 78, 3) := by decide +kernel
theorem dX2_readSubject_9 : decode cX2_readSubject 9 = .ok (.ifCond .ne 5, 3) := by decide +kernel
theorem dX2_readSubject_12 : decode cX2_readSubject 12 = .ok (.iconst 0, 1) := by decide +kernel
theorem dX2_readSubject_13 : decode cX2_readSubject 13 = .ok (.ireturn, 1) := by decide +kernel
theorem dX2_readSubject_14 : decode cX2_readSubject 14 = .ok (.aload_n 1, 1) := by decide +kernel
theorem dX2_readSubject_15 : decode cX2_readSubject 15 = .ok (.aload_n 0, 1) := by decide +kernel
theorem dX2_readSubject_16 : decode cX2_readSubject 16 = .ok (.getfield 28, 3) := by decide +kernel
theorem dX2_readSubject_19 : decode cX2_readSubject 19 = .ok (.putfield 100, 3) := by decide +kernel
theorem dX2_readSubject_22 : decode cX2_readSubject 22 = .ok (.aload_n 0, 1) := by decide +kernel
theorem dX2_readSubject_23 : decode cX2_readSubject 23 = .ok (.invokevirtual 31, 3) := by decide +kernel
theorem dX2_readSubject_26 : decode cX2_readSubject 26 = .ok (.iconst 1, 1) := by decide +kernel
theorem dX2_readSubject_27 : decode cX2_readSubject 27 = .ok (.ireturn, 1) := by decide +kernel
theorem dX2_isNumberUpTo_0 : decode cX2_isNumberUpTo 0 = .ok (.aload_n 0, 1) := by decide +kernel
theorem dX2_isNumberUpTo_1 : decode cX2_isNumberUpTo 1 = .ok (.getfield 19, 3) := by decide +kernel
theorem dX2_isNumberUpTo_4 : decode cX2_isNumberUpTo 4 = .ok (.iconst 2, 1) := by decide +kernel
theorem dX2_isNumberUpTo_5 : decode cX2_isNumberUpTo 5 = .ok (.if_icmp .ne 15, 3) := by decide +kernel
theorem dX2_isNumberUpTo_8 : decode cX2_isNumberUpTo 8 = .ok (.aload_n 0, 1) := by decide +kernel
theorem dX2_isNumberUpTo_9 : decode cX2_isNumberUpTo 9 = .ok (.getfield 28, 3) := by decide +kernel
theorem dX2_isNumberUpTo_12 : decode cX2_isNumberUpTo 12 = .ok (.iload_n 1, 1) := by decide +kernel
theorem dX2_isNumberUpTo_13 : decode cX2_isNumberUpTo 13 = .ok (.if_icmp .gt 7, 3) := by decide +kernel
theorem dX2_isNumberUpTo_16 : decode cX2_isNumberUpTo 16 = .ok (.iconst 1, 1) := by decide +kernel
theorem dX2_isNumberUpTo_17 : decode cX2_isNumberUpTo 17 = .ok (.goto 4, 3) := by decide +kernel
theorem dX2_isNumberUpTo_20 : decode cX2_isNumberUpTo 20 = .ok (.iconst 0, 1) := by decide +kernel
theorem dX2_isNumberUpTo_21 : decode cX2_isNumberUpTo 21 = .ok (.ireturn, 1) := by decide +kernel
theorem dX2_isSign_0 : decode cX2_isSign 0 = .ok (.aload_n 0, 1) := by decide +kernel
theorem dX2_isSign_1 : decode cX2_isSign 1 = .ok (.getfield 19, 3) := by decide +kernel
theorem dX2_isSign_4 : decode cX2_isSign 4 = .ok (.iconst 3, 1) := by decide +kernel
theorem dX2_isSign_5 : decode cX2_isSign 5 = .ok (.if_icmp .ne 20, 3) := by decide +kernel
theorem dX2_isSign_8 : decode cX2_isSign 8 = .ok (.aload_n 0, 1) := by decide +kernel
theorem dX2_isSign_9 : decode cX2_isSign 9 = .ok (.getfield 9, 3) := by decide +kernel
theorem dX2_isSign_12 : decode cX2_isSign 12 = .ok (.aload_n 0, 1) := by decide +kernel
theorem dX2_isSign_13 : decode cX2_isSign 13 = .ok (.getfield 22, 3) := by decide +kernel
theorem dX2_isSign_16 : decode cX2_isSign 16 = .ok (.iaload, 1) := by decide +kernel
theorem dX2_isSign_17 : decode cX2_isSign 17 = .ok (.iload_n 1, 1) := by decide +kernel
theorem dX2_isSign_18 : decode cX2_isSign 18 = .ok (.if_icmp .ne 7, 3) := by decide +kernel
theorem dX2_isSign_21 : decode cX2_isSign 21 = .ok (.iconst 1, 1) := by decide +kernel
theorem dX2_isSign_22 : decode cX2_isSign 22 = .ok (.goto 4, 3) := by decide +kernel
theorem dX2_isSign_25 : decode cX2_isSign 25 = .ok (.iconst 0, 1) := by decide +kernel
theorem dX2_isSign_26 : decode cX2_isSign 26 = .ok (.ireturn, 1) := by decide +kernel
theorem dX2_isWord_0 : decode cX2_isWord 0 = .ok (.aload_n 0, 1) := by decide +kernel
theorem dX2_isWord_1 : decode cX2_isWord 1 = .ok (.getfield 19, 3) := by decide +kernel
theorem dX2_isWord_4 : decode cX2_isWord 4 = .ok (.iconst 1, 1) := by decide +kernel
theorem dX2_isWord_5 : decode cX2_isWord 5 = .ok (.if_icmp .ne 19, 3) := by decide +kernel
theorem dX2_isWord_8 : decode cX2_isWord 8 = .ok (.aload_n 0, 1) := by decide +kernel
theorem dX2_isWord_9 : decode cX2_isWord 9 = .ok (.getfield 25, 3) := by decide +kernel
theorem dX2_isWord_12 : decode cX2_isWord 12 = .ok (.aload_n 0, 1) := by decide +kernel
theorem dX2_isWord_13 : decode cX2_isWord 13 = .ok (.getfield 22, 3) := by decide +kernel
theorem dX2_isWord_16 : decode cX2_isWord 16 = .ok (.isub, 1) := by decide +kernel
theorem dX2_isWord_17 : decode cX2_isWord 17 = .ok (.aload_n 1, 1) := by decide +kernel
theorem dX2_isWord_18 : decode cX2_isWord 18 = .ok (.invokevirtual 103, 3) := by decide +kernel
theorem dX2_isWord_21 : decode cX2_isWord 21 = .ok (.if_icmp .eq 5, 3) := by decide +kernel
theorem dX2_isWord_24 : decode cX2_isWord 24 = .ok (.iconst 0, 1) := by decide +kernel
theorem dX2_isWord_25 : decode cX2_isWord 25 = .ok (.ireturn, 1) := by decide +kernel
theorem dX2_isWord_26 : decode cX2_isWord 26 = .ok (.iconst 0, 1) := by decide +kernel
theorem dX2_isWord_27 : decode cX2_isWord 27 = .ok (.istore_n 2, 1) := by decide +kernel
theorem dX2_isWord_28 : decode cX2_isWord 28 = .ok (.iload_n 2, 1) := by decide +kernel
theorem dX2_isWord_29 : decode cX2_isWord 29 = .ok (.aload_n 1, 1) := by decide +kernel
theorem dX2_isWord_30 : decode cX2_isWord 30 = .ok (.invokevirtual 103, 3) := by decide +kernel
theorem dX2_isWord_33 : decode cX2_isWord 33 = .ok (.if_icmp .ge 30, 3) := by decide +kernel
theorem dX2_isWord_36 : decode cX2_isWord 36 = .ok (.aload_n 0, 1) := by decide +kernel
theorem dX2_isWord_37 : decode cX2_isWord 37 = .ok (.getfield 9, 3) := by decide +kernel
theorem dX2_isWord_40 : decode cX2_isWord 40 = .ok (.aload_n 0, 1) := by decide +kernel
theorem dX2_isWord_41 : decode cX2_isWord 41 = .ok (.getfield 22, 3) := by decide +kernel
theorem dX2_isWord_44 : decode cX2_isWord 44 = .ok (.iload_n 2, 1) := by decide +kernel
theorem dX2_isWord_45 : decode cX2_isWord 45 = .ok (.iadd, 1) := by decide +kernel
theorem dX2_isWord_46 : decode cX2_isWord 46 = .ok (.iaload, 1) := by decide +kernel
theorem dX2_isWord_47 : decode cX2_isWord 47 = .ok (.aload_n 1, 1) := by decide +kernel
theorem dX2_isWord_48 : decode cX2_isWord 48 = .ok (.iload_n 2, 1) := by decide +kernel
theorem dX2_isWord_49 : decode cX2_isWord 49 = .ok (.invokevirtual 108, 3) := by decide +kernel
theorem dX2_isWord_52 : decode cX2_isWord 52 = .ok (.if_icmp .eq 5, 3) := by decide +kernel
theorem dX2_isWord_55 : decode cX2_isWord 55 = .ok (.iconst 0, 1) := by decide +kernel
theorem dX2_isWord_56 : decode cX2_isWord 56 = .ok (.ireturn, 1) := by decide +kernel
theorem dX2_isWord_57 : decode cX2_isWord 57 = .ok (.iinc 2 1, 3) := by decide +kernel
theorem dX2_isWord_60 : decode cX2_isWord 60 = .ok (.goto (-32), 3) := by decide +kernel
theorem dX2_isWord_63 : decode cX2_isWord 63 = .ok (.iconst 1, 1) := by decide +kernel
theorem dX2_isWord_64 : decode cX2_isWord 64 = .ok (.ireturn, 1) := by decide +kernel
theorem dX2_advance_0 : decode cX2_advance 0 = .ok (.aload_n 0, 1) := by decide +kernel
theorem dX2_advance_1 : decode cX2_advance 1 = .ok (.aload_n 0, 1) := by decide +kernel
theorem dX2_advance_2 : decode cX2_advance 2 = .ok (.getfield 25, 3) := by decide +kernel
theorem dX2_advance_5 : decode cX2_advance 5 = .ok (.putfield 22, 3) := by decide +kernel
theorem dX2_advance_8 : decode cX2_advance 8 = .ok (.aload_n 0, 1) := by decide +kernel
theorem dX2_advance_9 : decode cX2_advance 9 = .ok (.getfield 22, 3) := by decide +kernel
theorem dX2_advance_12 : decode cX2_advance 12 = .ok (.aload_n 0, 1) := by decide +kernel
theorem dX2_advance_13 : decode cX2_advance 13 = .ok (.getfield 15, 3) := by decide +kernel
theorem dX2_advance_16 : decode cX2_advance 16 = .ok (.if_icmp .ge 30, 3) := by decide +kernel
theorem dX2_advance_19 : decode cX2_advance 19 = .ok (.aload_n 0, 1) := by decide +kernel
theorem dX2_advance_20 : decode cX2_advance 20 = .ok (.getfield 9, 3) := by decide +kernel
theorem dX2_advance_23 : decode cX2_advance 23 = .ok (.aload_n 0, 1) := by decide +kernel
theorem dX2_advance_24 : decode cX2_advance 24 = .ok (.getfield 22, 3) := by decide +kernel
theorem dX2_advance_27 : decode cX2_advance 27 = .ok (.iaload, 1) := by decide +kernel
theorem dX2_advance_28 : decode cX2_advance 28 = .ok (.bipush 32, 2) := by decide +kernel
theorem dX2_advance_30 : decode cX2_advance 30 = .ok (.if_icmp .ne 16, 3) := by decide +kernel
theorem dX2_advance_33 : decode cX2_advance 33 = .ok (.aload_n 0, 1) := by decide +kernel
theorem dX2_advance_34 : decode cX2_advance 34 = .ok (.dup, 1) := by decide +kernel
theorem dX2_advance_35 : decode cX2_advance 35 = .ok (.getfield 22, 3) := by decide +kernel
theorem dX2_advance_38 : decode cX2_advance 38 = .ok (.iconst 1, 1) := by decide +kernel
theorem dX2_advance_39 : decode cX2_advance 39 = .ok (.iadd, 1) := by decide +kernel
theorem dX2_advance_40 : decode cX2_advance 40 = .ok (.putfield 22, 3) := by decide +kernel
theorem dX2_advance_43 : decode cX2_advance 43 = .ok (.goto (-35), 3) := by decide +kernel
theorem dX2_advance_46 : decode cX2_advance 46 = .ok (.aload_n 0, 1) := by decide +kernel
theorem dX2_advance_47 : decode cX2_advance 47 = .ok (.aload_n 0, 1) := by decide +kernel
theorem dX2_advance_48 : decode cX2_advance 48 = .ok (.aload_n 0, 1) := by decide +kernel
theorem dX2_advance_49 : decode cX2_advance 49 = .ok (.getfield 22, 3) := by decide +kernel
theorem dX2_advance_52 : decode cX2_advance 52 = .ok (.invokevirtual 112, 3) := by decide +kernel
theorem dX2_advance_55 : decode cX2_advance 55 = .ok (.putfield 19, 3) := by decide +kernel
theorem dX2_advance_58 : decode cX2_advance 58 = .ok (.aload_n 0, 1) := by decide +kernel
theorem dX2_advance_59 : decode cX2_advance 59 = .ok (.aload_n 0, 1) := by decide +kernel
theorem dX2_advance_60 : decode cX2_advance 60 = .ok (.getfield 19, 3) := by decide +kernel
theorem dX2_advance_63 : decode cX2_advance 63 = .ok (.ifCond .ne 10, 3) := by decide +kernel
theorem dX2_advance_66 : decode cX2_advance 66 = .ok (.aload_n 0, 1) := by decide +kernel
theorem dX2_advance_67 : decode cX2_advance 67 = .ok (.getfield 22, 3) := by decide +kernel
theorem dX2_advance_70 : decode cX2_advance 70 = .ok (.goto 9, 3) := by decide +kernel
theorem dX2_advance_73 : decode cX2_advance 73 = .ok (.aload_n 0, 1) := by decide +kernel
theorem dX2_advance_74 : decode cX2_advance 74 = .ok (.getfield 22, 3) := by decide +kernel
theorem dX2_advance_77 : decode cX2_advance 77 = .ok (.iconst 1, 1) := by decide +kernel
theorem dX2_advance_78 : decode cX2_advance 78 = .ok (.iadd, 1) := by decide +kernel
theorem dX2_advance_79 : decode cX2_advance 79 = .ok (.putfield 25, 3) := by decide +kernel
theorem dX2_advance_82 : decode cX2_advance 82 = .ok (.aload_n 0, 1) := by decide +kernel
theorem dX2_advance_83 : decode cX2_advance 83 = .ok (.getfield 19, 3) := by decide +kernel
theorem dX2_advance_86 : decode cX2_advance 86 = .ok (.iconst 1, 1) := by decide +kernel
theorem dX2_advance_87 : decode cX2_advance 87 = .ok (.if_icmp .eq 11, 3) := by decide +kernel
theorem dX2_advance_90 : decode cX2_advance 90 = .ok (.aload_n 0, 1) := by decide +kernel
theorem dX2_advance_91 : decode cX2_advance 91 = .ok (.getfield 19, 3) := by decide +kernel
theorem dX2_advance_94 : decode cX2_advance 94 = .ok (.iconst 2, 1) := by decide +kernel
theorem dX2_advance_95 : decode cX2_advance 95 = .ok (.if_icmp .ne 42, 3) := by decide +kernel
theorem dX2_advance_98 : decode cX2_advance 98 = .ok (.aload_n 0, 1) := by decide +kernel
theorem dX2_advance_99 : decode cX2_advance 99 = .ok (.getfield 25, 3) := by decide +kernel
theorem dX2_advance_102 : decode cX2_advance 102 = .ok (.aload_n 0, 1) := by decide +kernel
theorem dX2_advance_103 : decode cX2_advance 103 = .ok (.getfield 15, 3) := by decide +kernel
theorem dX2_advance_106 : decode cX2_advance 106 = .ok (.if_icmp .ge 31, 3) := by decide +kernel
theorem dX2_advance_109 : decode cX2_advance 109 = .ok (.aload_n 0, 1) := by decide +kernel
theorem dX2_advance_110 : decode cX2_advance 110 = .ok (.aload_n 0, 1) := by decide +kernel
theorem dX2_advance_111 : decode cX2_advance 111 = .ok (.getfield 25, 3) := by decide +kernel
theorem dX2_advance_114 : decode cX2_advance 114 = .ok (.invokevirtual 112, 3) := by decide +kernel
theorem dX2_advance_117 : decode cX2_advance 117 = .ok (.aload_n 0, 1) := by decide +kernel
theorem dX2_advance_118 : decode cX2_advance 118 = .ok (.getfield 19, 3) := by decide +kernel
theorem dX2_advance_121 : decode cX2_advance 121 = .ok (.if_icmp .ne 16, 3) := by decide +kernel
theorem dX2_advance_124 : decode cX2_advance 124 = .ok (.aload_n 0, 1) := by decide +kernel
theorem dX2_advance_125 : decode cX2_advance 125 = .ok (.dup, 1) := by decide +kernel
theorem dX2_advance_126 : decode cX2_advance 126 = .ok (.getfield 25, 3) := by decide +kernel
theorem dX2_advance_129 : decode cX2_advance 129 = .ok (.iconst 1, 1) := by decide +kernel
theorem dX2_advance_130 : decode cX2_advance 130 = .ok (.iadd, 1) := by decide +kernel
theorem dX2_advance_131 : decode cX2_advance 131 = .ok (.putfield 25, 3) := by decide +kernel
theorem dX2_advance_134 : decode cX2_advance 134 = .ok (.goto (-36), 3) := by decide +kernel
theorem dX2_advance_137 : decode cX2_advance 137 = .ok (.aload_n 0, 1) := by decide +kernel
theorem dX2_advance_138 : decode cX2_advance 138 = .ok (.invokevirtual 115, 3) := by decide +kernel
theorem dX2_advance_141 : decode cX2_advance 141 = .ok (.return_, 1) := by decide +kernel
theorem dX2_readNumber_0 : decode cX2_readNumber 0 = .ok (.aload_n 0, 1) := by decide +kernel
theorem dX2_readNumber_1 : decode cX2_readNumber 1 = .ok (.iconst 0, 1) := by decide +kernel
theorem dX2_readNumber_2 : decode cX2_readNumber 2 = .ok (.putfield 28, 3) := by decide +kernel
theorem dX2_readNumber_5 : decode cX2_readNumber 5 = .ok (.aload_n 0, 1) := by decide +kernel
theorem dX2_readNumber_6 : decode cX2_readNumber 6 = .ok (.getfield 22, 3) := by decide +kernel
theorem dX2_readNumber_9 : decode cX2_readNumber 9 = .ok (.istore_n 1, 1) := by decide +kernel
theorem dX2_readNumber_10 : decode cX2_readNumber 10 = .ok (.iload_n 1, 1) := by decide +kernel
theorem dX2_readNumber_11 : decode cX2_readNumber 11 = .ok (.aload_n 0, 1) := by decide +kernel
theorem dX2_readNumber_12 : decode cX2_readNumber 12 = .ok (.getfield 25, 3) := by decide +kernel
theorem dX2_readNumber_15 : decode cX2_readNumber 15 = .ok (.if_icmp .ge 48, 3) := by decide +kernel
theorem dX2_readNumber_18 : decode cX2_readNumber 18 = .ok (.aload_n 0, 1) := by decide +kernel
theorem dX2_readNumber_19 : decode cX2_readNumber 19 = .ok (.getfield 19, 3) := by decide +kernel
theorem dX2_readNumber_22 : decode cX2_readNumber 22 = .ok (.iconst 2, 1) := by decide +kernel
theorem dX2_readNumber_23 : decode cX2_readNumber 23 = .ok (.if_icmp .ne 40, 3) := by decide +kernel
theorem dX2_readNumber_26 : decode cX2_readNumber 26 = .ok (.aload_n 0, 1) := by decide +kernel
theorem dX2_readNumber_27 : decode cX2_readNumber 27 = .ok (.getfield 28, 3) := by decide +kernel
theorem dX2_readNumber_30 : decode cX2_readNumber 30 = .ok (.sipush 999, 3) := by decide +kernel
theorem dX2_readNumber_33 : decode cX2_readNumber 33 = .ok (.if_icmp .gt 30, 3) := by decide +kernel
theorem dX2_readNumber_36 : decode cX2_readNumber 36 = .ok (.aload_n 0, 1) := by decide +kernel
theorem dX2_readNumber_37 : decode cX2_readNumber 37 = .ok (.bipush 10, 2) := by decide +kernel
theorem dX2_readNumber_39 : decode cX2_readNumber 39 = .ok (.aload_n 0, 1) := by decide +kernel
theorem dX2_readNumber_40 : decode cX2_readNumber 40 = .ok (.getfield 28, 3) := by decide +kernel
theorem dX2_readNumber_43 : decode cX2_readNumber 43 = .ok (.imul, 1) := by decide +kernel
theorem dX2_readNumber_44 : decode cX2_readNumber 44 = .ok (.aload_n 0, 1) := by decide +kernel
theorem dX2_readNumber_45 : decode cX2_readNumber 45 = .ok (.getfield 9, 3) := by decide +kernel
theorem dX2_readNumber_48 : decode cX2_readNumber 48 = .ok (.iload_n 1, 1) := by decide +kernel
theorem dX2_readNumber_49 : decode cX2_readNumber 49 = .ok (.iaload, 1) := by decide +kernel
theorem dX2_readNumber_50 : decode cX2_readNumber 50 = .ok (.iadd, 1) := by decide +kernel
theorem dX2_readNumber_51 : decode cX2_readNumber 51 = .ok (.bipush 48, 2) := by decide +kernel
theorem dX2_readNumber_53 : decode cX2_readNumber 53 = .ok (.isub, 1) := by decide +kernel
theorem dX2_readNumber_54 : decode cX2_readNumber 54 = .ok (.putfield 28, 3) := by decide +kernel
theorem dX2_readNumber_57 : decode cX2_readNumber 57 = .ok (.iinc 1 1, 3) := by decide +kernel
theorem dX2_readNumber_60 : decode cX2_readNumber 60 = .ok (.goto (-50), 3) := by decide +kernel
theorem dX2_readNumber_63 : decode cX2_readNumber 63 = .ok (.return_, 1) := by decide +kernel
theorem dX2_sortAt_0 : decode cX2_sortAt 0 = .ok (.iload_n 1, 1) := by decide +kernel
theorem dX2_sortAt_1 : decode cX2_sortAt 1 = .ok (.aload_n 0, 1) := by decide +kernel
theorem dX2_sortAt_2 : decode cX2_sortAt 2 = .ok (.getfield 15, 3) := by decide +kernel
theorem dX2_sortAt_5 : decode cX2_sortAt 5 = .ok (.if_icmp .lt 5, 3) := by decide +kernel
theorem dX2_sortAt_8 : decode cX2_sortAt 8 = .ok (.iconst 0, 1) := by decide +kernel
theorem dX2_sortAt_9 : decode cX2_sortAt 9 = .ok (.ireturn, 1) := by decide +kernel
theorem dX2_sortAt_10 : decode cX2_sortAt 10 = .ok (.aload_n 0, 1) := by decide +kernel
theorem dX2_sortAt_11 : decode cX2_sortAt 11 = .ok (.getfield 9, 3) := by decide +kernel
theorem dX2_sortAt_14 : decode cX2_sortAt 14 = .ok (.iload_n 1, 1) := by decide +kernel
theorem dX2_sortAt_15 : decode cX2_sortAt 15 = .ok (.iaload, 1) := by decide +kernel
theorem dX2_sortAt_16 : decode cX2_sortAt 16 = .ok (.istore_n 2, 1) := by decide +kernel
theorem dX2_sortAt_17 : decode cX2_sortAt 17 = .ok (.iload_n 2, 1) := by decide +kernel
theorem dX2_sortAt_18 : decode cX2_sortAt 18 = .ok (.bipush 97, 2) := by decide +kernel
theorem dX2_sortAt_20 : decode cX2_sortAt 20 = .ok (.if_icmp .lt 11, 3) := by decide +kernel
theorem dX2_sortAt_23 : decode cX2_sortAt 23 = .ok (.iload_n 2, 1) := by decide +kernel
theorem dX2_sortAt_24 : decode cX2_sortAt 24 = .ok (.bipush 122, 2) := by decide +kernel
theorem dX2_sortAt_26 : decode cX2_sortAt 26 = .ok (.if_icmp .gt 5, 3) := by decide +kernel
theorem dX2_sortAt_29 : decode cX2_sortAt 29 = .ok (.iconst 1, 1) := by decide +kernel
theorem dX2_sortAt_30 : decode cX2_sortAt 30 = .ok (.ireturn, 1) := by decide +kernel
theorem dX2_sortAt_31 : decode cX2_sortAt 31 = .ok (.iload_n 2, 1) := by decide +kernel
theorem dX2_sortAt_32 : decode cX2_sortAt 32 = .ok (.bipush 48, 2) := by decide +kernel
theorem dX2_sortAt_34 : decode cX2_sortAt 34 = .ok (.if_icmp .lt 11, 3) := by decide +kernel
theorem dX2_sortAt_37 : decode cX2_sortAt 37 = .ok (.iload_n 2, 1) := by decide +kernel
theorem dX2_sortAt_38 : decode cX2_sortAt 38 = .ok (.bipush 57, 2) := by decide +kernel
theorem dX2_sortAt_40 : decode cX2_sortAt 40 = .ok (.if_icmp .gt 5, 3) := by decide +kernel
theorem dX2_sortAt_43 : decode cX2_sortAt 43 = .ok (.iconst 2, 1) := by decide +kernel
theorem dX2_sortAt_44 : decode cX2_sortAt 44 = .ok (.ireturn, 1) := by decide +kernel
theorem dX2_sortAt_45 : decode cX2_sortAt 45 = .ok (.iload_n 2, 1) := by decide +kernel
theorem dX2_sortAt_46 : decode cX2_sortAt 46 = .ok (.bipush 59, 2) := by decide +kernel
theorem dX2_sortAt_48 : decode cX2_sortAt 48 = .ok (.if_icmp .eq 9, 3) := by decide +kernel
theorem dX2_sortAt_51 : decode cX2_sortAt 51 = .ok (.iload_n 2, 1) := by decide +kernel
theorem dX2_sortAt_52 : decode cX2_sortAt 52 = .ok (.bipush 45, 2) := by decide +kernel
theorem dX2_sortAt_54 : decode cX2_sortAt 54 = .ok (.if_icmp .ne 7, 3) := by decide +kernel
theorem dX2_sortAt_57 : decode cX2_sortAt 57 = .ok (.iconst 3, 1) := by decide +kernel
theorem dX2_sortAt_58 : decode cX2_sortAt 58 = .ok (.goto 4, 3) := by decide +kernel
theorem dX2_sortAt_61 : decode cX2_sortAt 61 = .ok (.iconst 4, 1) := by decide +kernel
theorem dX2_sortAt_62 : decode cX2_sortAt 62 = .ok (.ireturn, 1) := by decide +kernel
theorem dX3_init_0 : decode cX3_init 0 = .ok (.aload_n 0, 1) := by decide +kernel
theorem dX3_init_1 : decode cX3_init 1 = .ok (.invokespecial 3, 3) := by decide +kernel
theorem dX3_init_4 : decode cX3_init 4 = .ok (.aload_n 0, 1) := by decide +kernel
theorem dX3_init_5 : decode cX3_init 5 = .ok (.bipush 40, 2) := by decide +kernel
theorem dX3_init_7 : decode cX3_init 7 = .ok (.newarray .int, 2) := by decide +kernel
theorem dX3_init_9 : decode cX3_init 9 = .ok (.putfield 9, 3) := by decide +kernel
theorem dX3_init_12 : decode cX3_init 12 = .ok (.aload_n 0, 1) := by decide +kernel
theorem dX3_init_13 : decode cX3_init 13 = .ok (.iconst 0, 1) := by decide +kernel
theorem dX3_init_14 : decode cX3_init 14 = .ok (.putfield 15, 3) := by decide +kernel
theorem dX3_init_17 : decode cX3_init 17 = .ok (.aload_n 0, 1) := by decide +kernel
theorem dX3_init_18 : decode cX3_init 18 = .ok (.iconst 0, 1) := by decide +kernel
theorem dX3_init_19 : decode cX3_init 19 = .ok (.putfield 19, 3) := by decide +kernel
theorem dX3_init_22 : decode cX3_init 22 = .ok (.return_, 1) := by decide +kernel
theorem dX3_isMissing_0 : decode cX3_isMissing 0 = .ok (.aload_n 0, 1) := by decide +kernel
theorem dX3_isMissing_1 : decode cX3_isMissing 1 = .ok (.getfield 15, 3) := by decide +kernel
theorem dX3_isMissing_4 : decode cX3_isMissing 4 = .ok (.ifCond .ne 7, 3) := by decide +kernel
theorem dX3_isMissing_7 : decode cX3_isMissing 7 = .ok (.iconst 1, 1) := by decide +kernel
theorem dX3_isMissing_8 : decode cX3_isMissing 8 = .ok (.goto 4, 3) := by decide +kernel
theorem dX3_isMissing_11 : decode cX3_isMissing 11 = .ok (.iconst 0, 1) := by decide +kernel
theorem dX3_isMissing_12 : decode cX3_isMissing 12 = .ok (.ireturn, 1) := by decide +kernel
theorem dX3_renew_0 : decode cX3_renew 0 = .ok (.aload_n 0, 1) := by decide +kernel
theorem dX3_renew_1 : decode cX3_renew 1 = .ok (.iload_n 1, 1) := by decide +kernel
theorem dX3_renew_2 : decode cX3_renew 2 = .ok (.putfield 15, 3) := by decide +kernel
theorem dX3_renew_5 : decode cX3_renew 5 = .ok (.aload_n 0, 1) := by decide +kernel
theorem dX3_renew_6 : decode cX3_renew 6 = .ok (.iload_n 1, 1) := by decide +kernel
theorem dX3_renew_7 : decode cX3_renew 7 = .ok (.ifCond .ne 7, 3) := by decide +kernel
theorem dX3_renew_10 : decode cX3_renew 10 = .ok (.iconst 0, 1) := by decide +kernel
theorem dX3_renew_11 : decode cX3_renew 11 = .ok (.goto 4, 3) := by decide +kernel
theorem dX3_renew_14 : decode cX3_renew 14 = .ok (.iload_n 2, 1) := by decide +kernel
theorem dX3_renew_15 : decode cX3_renew 15 = .ok (.putfield 19, 3) := by decide +kernel
theorem dX3_renew_18 : decode cX3_renew 18 = .ok (.iconst 0, 1) := by decide +kernel
theorem dX3_renew_19 : decode cX3_renew 19 = .ok (.istore_n 3, 1) := by decide +kernel
theorem dX3_renew_20 : decode cX3_renew 20 = .ok (.iload_n 3, 1) := by decide +kernel
theorem dX3_renew_21 : decode cX3_renew 21 = .ok (.aload_n 0, 1) := by decide +kernel
theorem dX3_renew_22 : decode cX3_renew 22 = .ok (.getfield 19, 3) := by decide +kernel
theorem dX3_renew_25 : decode cX3_renew 25 = .ok (.if_icmp .ge 16, 3) := by decide +kernel
theorem dX3_renew_28 : decode cX3_renew 28 = .ok (.aload_n 0, 1) := by decide +kernel
theorem dX3_renew_29 : decode cX3_renew 29 = .ok (.getfield 9, 3) := by decide +kernel
theorem dX3_renew_32 : decode cX3_renew 32 = .ok (.iload_n 3, 1) := by decide +kernel
theorem dX3_renew_33 : decode cX3_renew 33 = .ok (.iconst 0, 1) := by decide +kernel
theorem dX3_renew_34 : decode cX3_renew 34 = .ok (.iastore, 1) := by decide +kernel
theorem dX3_renew_35 : decode cX3_renew 35 = .ok (.iinc 3 1, 3) := by decide +kernel
theorem dX3_renew_38 : decode cX3_renew 38 = .ok (.goto (-18), 3) := by decide +kernel
theorem dX3_renew_41 : decode cX3_renew 41 = .ok (.aload_n 0, 1) := by decide +kernel
theorem dX3_renew_42 : decode cX3_renew 42 = .ok (.getfield 19, 3) := by decide +kernel
theorem dX3_renew_45 : decode cX3_renew 45 = .ok (.ireturn, 1) := by decide +kernel
theorem dX3_put_0 : decode cX3_put 0 = .ok (.bipush 32, 2) := by decide +kernel
theorem dX3_put_2 : decode cX3_put 2 = .ok (.aload_n 0, 1) := by decide +kernel
theorem dX3_put_3 : decode cX3_put 3 = .ok (.getfield 15, 3) := by decide +kernel
theorem dX3_put_6 : decode cX3_put 6 = .ok (.isub, 1) := by decide +kernel
theorem dX3_put_7 : decode cX3_put 7 = .ok (.istore_n 3, 1) := by decide +kernel
theorem dX3_put_8 : decode cX3_put 8 = .ok (.aload_n 0, 1) := by decide +kernel
theorem dX3_put_9 : decode cX3_put 9 = .ok (.getfield 9, 3) := by decide +kernel
theorem dX3_put_12 : decode cX3_put 12 = .ok (.iload_n 1, 1) := by decide +kernel
theorem dX3_put_13 : decode cX3_put 13 = .ok (.iload_n 2, 1) := by decide +kernel
theorem dX3_put_14 : decode cX3_put 14 = .ok (.iload_n 3, 1) := by decide +kernel
theorem dX3_put_15 : decode cX3_put 15 = .ok (.ishl, 1) := by decide +kernel
theorem dX3_put_16 : decode cX3_put 16 = .ok (.iload_n 3, 1) := by decide +kernel
theorem dX3_put_17 : decode cX3_put 17 = .ok (.ishr, 1) := by decide +kernel
theorem dX3_put_18 : decode cX3_put 18 = .ok (.iastore, 1) := by decide +kernel
theorem dX3_put_19 : decode cX3_put 19 = .ok (.return_, 1) := by decide +kernel
theorem dX3_hasRange_0 : decode cX3_hasRange 0 = .ok (.iload_n 1, 1) := by decide +kernel
theorem dX3_hasRange_1 : decode cX3_hasRange 1 = .ok (.ifCond .lt 29, 3) := by decide +kernel
theorem dX3_hasRange_4 : decode cX3_hasRange 4 = .ok (.iload_n 2, 1) := by decide +kernel
theorem dX3_hasRange_5 : decode cX3_hasRange 5 = .ok (.ifCond .lt 25, 3) := by decide +kernel
theorem dX3_hasRange_8 : decode cX3_hasRange 8 = .ok (.iload_n 2, 1) := by decide +kernel
theorem dX3_hasRange_9 : decode cX3_hasRange 9 = .ok (.aload_n 0, 1) := by decide +kernel
theorem dX3_hasRange_10 : decode cX3_hasRange 10 = .ok (.getfield 19, 3) := by decide +kernel
theorem dX3_hasRange_13 : decode cX3_hasRange 13 = .ok (.if_icmp .gt 17, 3) := by decide +kernel
theorem dX3_hasRange_16 : decode cX3_hasRange 16 = .ok (.iload_n 1, 1) := by decide +kernel
theorem dX3_hasRange_17 : decode cX3_hasRange 17 = .ok (.aload_n 0, 1) := by decide +kernel
theorem dX3_hasRange_18 : decode cX3_hasRange 18 = .ok (.getfield 19, 3) := by decide +kernel
theorem dX3_hasRange_21 : decode cX3_hasRange 21 = .ok (.iload_n 2, 1) := by decide +kernel
theorem dX3_hasRange_22 : decode cX3_hasRange 22 = .ok (.isub, 1) := by decide +kernel
theorem dX3_hasRange_23 : decode cX3_hasRange 23 = .ok (.if_icmp .gt 7, 3) := by decide +kernel
theorem dX3_hasRange_26 : decode cX3_hasRange 26 = .ok (.iconst 1, 1) := by decide +kernel
theorem dX3_hasRange_27 : decode cX3_hasRange 27 = .ok (.goto 4, 3) := by decide +kernel
theorem dX3_hasRange_30 : decode cX3_hasRange 30 = .ok (.iconst 0, 1) := by decide +kernel
theorem dX3_hasRange_31 : decode cX3_hasRange 31 = .ok (.ireturn, 1) := by decide +kernel
theorem dX4_init_0 : decode cX4_init 0 = .ok (.aload_n 0, 1) := by decide +kernel
theorem dX4_init_1 : decode cX4_init 1 = .ok (.invokespecial 3, 3) := by decide +kernel
theorem dX4_init_4 : decode cX4_init 4 = .ok (.aload_n 0, 1) := by decide +kernel
theorem dX4_init_5 : decode cX4_init 5 = .ok (.bipush 8, 2) := by decide +kernel
theorem dX4_init_7 : decode cX4_init 7 = .ok (.newarray .int, 2) := by decide +kernel
theorem dX4_init_9 : decode cX4_init 9 = .ok (.putfield 9, 3) := by decide +kernel
theorem dX4_init_12 : decode cX4_init 12 = .ok (.aload_n 0, 1) := by decide +kernel
theorem dX4_init_13 : decode cX4_init 13 = .ok (.bipush 8, 2) := by decide +kernel
theorem dX4_init_15 : decode cX4_init 15 = .ok (.newarray .int, 2) := by decide +kernel
theorem dX4_init_17 : decode cX4_init 17 = .ok (.putfield 15, 3) := by decide +kernel
theorem dX4_init_20 : decode cX4_init 20 = .ok (.aload_n 0, 1) := by decide +kernel
theorem dX4_init_21 : decode cX4_init 21 = .ok (.bipush 48, 2) := by decide +kernel
theorem dX4_init_23 : decode cX4_init 23 = .ok (.newarray .int, 2) := by decide +kernel
theorem dX4_init_25 : decode cX4_init 25 = .ok (.putfield 18, 3) := by decide +kernel
theorem dX4_init_28 : decode cX4_init 28 = .ok (.aload_n 0, 1) := by decide +kernel
theorem dX4_init_29 : decode cX4_init 29 = .ok (.bipush 10, 2) := by decide +kernel
theorem dX4_init_31 : decode cX4_init 31 = .ok (.newarray .int, 2) := by decide +kernel
theorem dX4_init_33 : decode cX4_init 33 = .ok (.putfield 21, 3) := by decide +kernel
theorem dX4_init_36 : decode cX4_init 36 = .ok (.aload_n 0, 1) := by decide +kernel
theorem dX4_init_37 : decode cX4_init 37 = .ok (.iconst 0, 1) := by decide +kernel
theorem dX4_init_38 : decode cX4_init 38 = .ok (.putfield 24, 3) := by decide +kernel
theorem dX4_init_41 : decode cX4_init 41 = .ok (.aload_n 0, 1) := by decide +kernel
theorem dX4_init_42 : decode cX4_init 42 = .ok (.iconst 0, 1) := by decide +kernel
theorem dX4_init_43 : decode cX4_init 43 = .ok (.putfield 28, 3) := by decide +kernel
theorem dX4_init_46 : decode cX4_init 46 = .ok (.aload_n 0, 1) := by decide +kernel
theorem dX4_init_47 : decode cX4_init 47 = .ok (.iconst 0, 1) := by decide +kernel
theorem dX4_init_48 : decode cX4_init 48 = .ok (.putfield 31, 3) := by decide +kernel
theorem dX4_init_51 : decode cX4_init 51 = .ok (.aload_n 0, 1) := by decide +kernel
theorem dX4_init_52 : decode cX4_init 52 = .ok (.iconst 0, 1) := by decide +kernel
theorem dX4_init_53 : decode cX4_init 53 = .ok (.putfield 34, 3) := by decide +kernel
theorem dX4_init_56 : decode cX4_init 56 = .ok (.aload_n 0, 1) := by decide +kernel
theorem dX4_init_57 : decode cX4_init 57 = .ok (.iconst (-1), 1) := by decide +kernel
theorem dX4_init_58 : decode cX4_init 58 = .ok (.putfield 37, 3) := by decide +kernel
theorem dX4_init_61 : decode cX4_init 61 = .ok (.aload_n 0, 1) := by decide +kernel
theorem dX4_init_62 : decode cX4_init 62 = .ok (.iconst (-1), 1) := by decide +kernel
theorem dX4_init_63 : decode cX4_init 63 = .ok (.putfield 40, 3) := by decide +kernel
theorem dX4_init_66 : decode cX4_init 66 = .ok (.aload_n 0, 1) := by decide +kernel
theorem dX4_init_67 : decode cX4_init 67 = .ok (.iconst 1, 1) := by decide +kernel
theorem dX4_init_68 : decode cX4_init 68 = .ok (.putfield 43, 3) := by decide +kernel
theorem dX4_init_71 : decode cX4_init 71 = .ok (.iconst 0, 1) := by decide +kernel
theorem dX4_init_72 : decode cX4_init 72 = .ok (.istore_n 1, 1) := by decide +kernel
theorem dX4_init_73 : decode cX4_init 73 = .ok (.iload_n 1, 1) := by decide +kernel
theorem dX4_init_74 : decode cX4_init 74 = .ok (.bipush 10, 2) := by decide +kernel
theorem dX4_init_76 : decode cX4_init 76 = .ok (.if_icmp .ge 16, 3) := by decide +kernel
theorem dX4_init_79 : decode cX4_init 79 = .ok (.aload_n 0, 1) := by decide +kernel
theorem dX4_init_80 : decode cX4_init 80 = .ok (.getfield 21, 3) := by decide +kernel
theorem dX4_init_83 : decode cX4_init 83 = .ok (.iload_n 1, 1) := by decide +kernel
theorem dX4_init_84 : decode cX4_init 84 = .ok (.iconst (-1), 1) := by decide +kernel
theorem dX4_init_85 : decode cX4_init 85 = .ok (.iastore, 1) := by decide +kernel
theorem dX4_init_86 : decode cX4_init 86 = .ok (.iinc 1 1, 3) := by decide +kernel
theorem dX4_init_89 : decode cX4_init 89 = .ok (.goto (-16), 3) := by decide +kernel
theorem dX4_init_92 : decode cX4_init 92 = .ok (.return_, 1) := by decide +kernel
theorem dX4_takeOver_0 : decode cX4_takeOver 0 = .ok (.aload_n 1, 1) := by decide +kernel
theorem dX4_takeOver_1 : decode cX4_takeOver 1 = .ok (.getfield 9, 3) := by decide +kernel
theorem dX4_takeOver_4 : decode cX4_takeOver 4 = .ok (.iconst 0, 1) := by decide +kernel
theorem dX4_takeOver_5 : decode cX4_takeOver 5 = .ok (.aload_n 0, 1) := by decide +kernel
theorem dX4_takeOver_6 : decode cX4_takeOver 6 = .ok (.getfield 9, 3) := by decide +kernel
theorem dX4_takeOver_9 : decode cX4_takeOver 9 = .ok (.iconst 0, 1) := by decide +kernel
theorem dX4_takeOver_10 : decode cX4_takeOver 10 = .ok (.bipush 8, 2) := by decide +kernel
theorem dX4_takeOver_12 : decode cX4_takeOver 12 = .ok (.invokestatic 46, 3) := by decide +kernel
theorem dX4_takeOver_15 : decode cX4_takeOver 15 = .ok (.aload_n 1, 1) := by decide +kernel
theorem dX4_takeOver_16 : decode cX4_takeOver 16 = .ok (.getfield 15, 3) := by decide +kernel
theorem dX4_takeOver_19 : decode cX4_takeOver 19 = .ok (.iconst 0, 1) := by decide +kernel
theorem dX4_takeOver_20 : decode cX4_takeOver 20 = .ok (.aload_n 0, 1) := by decide +kernel
theorem dX4_takeOver_21 : decode cX4_takeOver 21 = .ok (.getfield 15, 3) := by decide +kernel
theorem dX4_takeOver_24 : decode cX4_takeOver 24 = .ok (.iconst 0, 1) := by decide +kernel
theorem dX4_takeOver_25 : decode cX4_takeOver 25 = .ok (.bipush 8, 2) := by decide +kernel
theorem dX4_takeOver_27 : decode cX4_takeOver 27 = .ok (.invokestatic 46, 3) := by decide +kernel
theorem dX4_takeOver_30 : decode cX4_takeOver 30 = .ok (.aload_n 1, 1) := by decide +kernel
theorem dX4_takeOver_31 : decode cX4_takeOver 31 = .ok (.getfield 18, 3) := by decide +kernel
theorem dX4_takeOver_34 : decode cX4_takeOver 34 = .ok (.iconst 0, 1) := by decide +kernel
theorem dX4_takeOver_35 : decode cX4_takeOver 35 = .ok (.aload_n 0, 1) := by decide +kernel
theorem dX4_takeOver_36 : decode cX4_takeOver 36 = .ok (.getfield 18, 3) := by decide +kernel
theorem dX4_takeOver_39 : decode cX4_takeOver 39 = .ok (.iconst 0, 1) := by decide +kernel
theorem dX4_takeOver_40 : decode cX4_takeOver 40 = .ok (.bipush 48, 2) := by decide +kernel
theorem dX4_takeOver_42 : decode cX4_takeOver 42 = .ok (.invokestatic 46, 3) := by decide +kernel
theorem dX4_takeOver_45 : decode cX4_takeOver 45 = .ok (.aload_n 1, 1) := by decide +kernel
theorem dX4_takeOver_46 : decode cX4_takeOver 46 = .ok (.getfield 21, 3) := by decide +kernel
theorem dX4_takeOver_49 : decode cX4_takeOver 49 = .ok (.iconst 0, 1) := by decide +kernel
theorem dX4_takeOver_50 : decode cX4_takeOver 50 = .ok (.aload_n 0, 1) := by decide +kernel
theorem dX4_takeOver_51 : decode cX4_takeOver 51 = .ok (.getfield 21, 3) := by decide +kernel
theorem dX4_takeOver_54 : decode cX4_takeOver 54 = .ok (.iconst 0, 1) := by decide +kernel
theorem dX4_takeOver_55 : decode cX4_takeOver 55 = .ok (.bipush 10, 2) := by decide +kernel
theorem dX4_takeOver_57 : decode cX4_takeOver 57 = .ok (.invokestatic 46, 3) := by decide +kernel
theorem dX4_takeOver_60 : decode cX4_takeOver 60 = .ok (.aload_n 0, 1) := by decide +kernel
theorem dX4_takeOver_61 : decode cX4_takeOver 61 = .ok (.aload_n 1, 1) := by decide +kernel
theorem dX4_takeOver_62 : decode cX4_takeOver 62 = .ok (.getfield 24, 3) := by decide +kernel
theorem dX4_takeOver_65 : decode cX4_takeOver 65 = .ok (.putfield 24, 3) := by decide +kernel
theorem dX4_takeOver_68 : decode cX4_takeOver 68 = .ok (.aload_n 0, 1) := by decide +kernel
theorem dX4_takeOver_69 : decode cX4_takeOver 69 = .ok (.aload_n 1, 1) := by decide +kernel
theorem dX4_takeOver_70 : decode cX4_takeOver 70 = .ok (.getfield 28, 3) := by decide +kernel
theorem dX4_takeOver_73 : decode cX4_takeOver 73 = .ok (.putfield 28, 3) := by decide +kernel
theorem dX4_takeOver_76 : decode cX4_takeOver 76 = .ok (.aload_n 0, 1) := by decide +kernel
theorem dX4_takeOver_77 : decode cX4_takeOver 77 = .ok (.aload_n 1, 1) := by decide +kernel
theorem dX4_takeOver_78 : decode cX4_takeOver 78 = .ok (.getfield 31, 3) := by decide +kernel
theorem dX4_takeOver_81 : decode cX4_takeOver 81 = .ok (.putfield 31, 3) := by decide +kernel
theorem dX4_takeOver_84 : decode cX4_takeOver 84 = .ok (.aload_n 0, 1) := by decide +kernel
theorem dX4_takeOver_85 : decode cX4_takeOver 85 = .ok (.aload_n 1, 1) := by decide +kernel
theorem dX4_takeOver_86 : decode cX4_takeOver 86 = .ok (.getfield 34, 3) := by decide +kernel
theorem dX4_takeOver_89 : decode cX4_takeOver 89 = .ok (.putfield 34, 3) := by decide +kernel
theorem dX4_takeOver_92 : decode cX4_takeOver 92 = .ok (.aload_n 0, 1) := by decide +kernel
theorem dX4_takeOver_93 : decode cX4_takeOver 93 = .ok (.aload_n 1, 1) := by decide +kernel
theorem dX4_takeOver_94 : decode cX4_takeOver 94 = .ok (.getfield 37, 3) := by decide +kernel
theorem dX4_takeOver_97 : decode cX4_takeOver 97 = .ok (.putfield 37, 3) := by decide +kernel
theorem dX4_takeOver_100 : decode cX4_takeOver 100 = .ok (.aload_n 0, 1) := by decide +kernel
theorem dX4_takeOver_101 : decode cX4_takeOver 101 = .ok (.aload_n 1, 1) := by decide +kernel
theorem dX4_takeOver_102 : decode cX4_takeOver 102 = .ok (.getfield 40, 3) := by decide +kernel
theorem dX4_takeOver_105 : decode cX4_takeOver 105 = .ok (.putfield 40, 3) := by decide +kernel
theorem dX4_takeOver_108 : decode cX4_takeOver 108 = .ok (.aload_n 0, 1) := by decide +kernel
theorem dX4_takeOver_109 : decode cX4_takeOver 109 = .ok (.aload_n 1, 1) := by decide +kernel
theorem dX4_takeOver_110 : decode cX4_takeOver 110 = .ok (.getfield 43, 3) := by decide +kernel
theorem dX4_takeOver_113 : decode cX4_takeOver 113 = .ok (.putfield 43, 3) := by decide +kernel
theorem dX4_takeOver_116 : decode cX4_takeOver 116 = .ok (.return_, 1) := by decide +kernel
theorem dX4_isThere_0 : decode cX4_isThere 0 = .ok (.iload_n 1, 1) := by decide +kernel
theorem dX4_isThere_1 : decode cX4_isThere 1 = .ok (.ifCond .lt 15, 3) := by decide +kernel
theorem dX4_isThere_4 : decode cX4_isThere 4 = .ok (.iload_n 1, 1) := by decide +kernel
theorem dX4_isThere_5 : decode cX4_isThere 5 = .ok (.aload_n 0, 1) := by decide +kernel
theorem dX4_isThere_6 : decode cX4_isThere 6 = .ok (.getfield 24, 3) := by decide +kernel
theorem dX4_isThere_9 : decode cX4_isThere 9 = .ok (.if_icmp .ge 7, 3) := by decide +kernel
theorem dX4_isThere_12 : decode cX4_isThere 12 = .ok (.iconst 1, 1) := by decide +kernel
theorem dX4_isThere_13 : decode cX4_isThere 13 = .ok (.goto 4, 3) := by decide +kernel
theorem dX4_isThere_16 : decode cX4_isThere 16 = .ok (.iconst 0, 1) := by decide +kernel
theorem dX4_isThere_17 : decode cX4_isThere 17 = .ok (.ireturn, 1) := by decide +kernel
theorem dX4_isCrowded_0 : decode cX4_isCrowded 0 = .ok (.aload_n 0, 1) := by decide +kernel
theorem dX4_isCrowded_1 : decode cX4_isCrowded 1 = .ok (.getfield 24, 3) := by decide +kernel
theorem dX4_isCrowded_4 : decode cX4_isCrowded 4 = .ok (.bipush 8, 2) := by decide +kernel
theorem dX4_isCrowded_6 : decode cX4_isCrowded 6 = .ok (.if_icmp .lt 7, 3) := by decide +kernel
theorem dX4_isCrowded_9 : decode cX4_isCrowded 9 = .ok (.iconst 1, 1) := by decide +kernel
theorem dX4_isCrowded_10 : decode cX4_isCrowded 10 = .ok (.goto 4, 3) := by decide +kernel
theorem dX4_isCrowded_13 : decode cX4_isCrowded 13 = .ok (.iconst 0, 1) := by decide +kernel
theorem dX4_isCrowded_14 : decode cX4_isCrowded 14 = .ok (.ireturn, 1) := by decide +kernel
theorem dX4_addPerson_0 : decode cX4_addPerson 0 = .ok (.aload_n 0, 1) := by decide +kernel
theorem dX4_addPerson_1 : decode cX4_addPerson 1 = .ok (.getfield 24, 3) := by decide +kernel
theorem dX4_addPerson_4 : decode cX4_addPerson 4 = .ok (.istore_n 2, 1) := by decide +kernel
theorem dX4_addPerson_5 : decode cX4_addPerson 5 = .ok (.aload_n 0, 1) := by decide +kernel
theorem dX4_addPerson_6 : decode cX4_addPerson 6 = .ok (.dup, 1) := by decide +kernel
theorem dX4_addPerson_7 : decode cX4_addPerson 7 = .ok (.getfield 24, 3) := by decide +kernel
theorem dX4_addPerson_10 : decode cX4_addPerson 10 = .ok (.iconst 1, 1) := by decide +kernel
theorem dX4_addPerson_11 : decode cX4_addPerson 11 = .ok (.iadd, 1) := by decide +kernel
theorem dX4_addPerson_12 : decode cX4_addPerson 12 = .ok (.putfield 24, 3) := by decide +kernel
theorem dX4_addPerson_15 : decode cX4_addPerson 15 = .ok (.aload_n 0, 1) := by decide +kernel
theorem dX4_addPerson_16 : decode cX4_addPerson 16 = .ok (.getfield 9, 3) := by decide +kernel
theorem dX4_addPerson_19 : decode cX4_addPerson 19 = .ok (.iload_n 2, 1) := by decide +kernel
theorem dX4_addPerson_20 : decode cX4_addPerson 20 = .ok (.iload_n 1, 1) := by decide +kernel
theorem dX4_addPerson_21 : decode cX4_addPerson 21 = .ok (.iastore, 1) := by decide +kernel
theorem dX4_addPerson_22 : decode cX4_addPerson 22 = .ok (.aload_n 0, 1) := by decide +kernel
theorem dX4_addPerson_23 : decode cX4_addPerson 23 = .ok (.getfield 15, 3) := by decide +kernel
theorem dX4_addPerson_26 : decode cX4_addPerson 26 = .ok (.iload_n 2, 1) := by decide +kernel
theorem dX4_addPerson_27 : decode cX4_addPerson 27 = .ok (.iconst 3, 1) := by decide +kernel
theorem dX4_addPerson_28 : decode cX4_addPerson 28 = .ok (.iastore, 1) := by decide +kernel
theorem dX4_addPerson_29 : decode cX4_addPerson 29 = .ok (.iconst 0, 1) := by decide +kernel
theorem dX4_addPerson_30 : decode cX4_addPerson 30 = .ok (.istore_n 3, 1) := by decide +kernel
theorem dX4_addPerson_31 : decode cX4_addPerson 31 = .ok (.iload_n 3, 1) := by decide +kernel
theorem dX4_addPerson_32 : decode cX4_addPerson 32 = .ok (.bipush 6, 2) := by decide +kernel
theorem dX4_addPerson_34 : decode cX4_addPerson 34 = .ok (.if_icmp .ge 16, 3) := by decide +kernel
theorem dX4_addPerson_37 : decode cX4_addPerson 37 = .ok (.aload_n 0, 1) := by decide +kernel
theorem dX4_addPerson_38 : decode cX4_addPerson 38 = .ok (.iload_n 2, 1) := by decide +kernel
theorem dX4_addPerson_39 : decode cX4_addPerson 39 = .ok (.iload_n 3, 1) := by decide +kernel
theorem dX4_addPerson_40 : decode cX4_addPerson 40 = .ok (.iconst 0, 1) := by decide +kernel
theorem dX4_addPerson_41 : decode cX4_addPerson 41 = .ok (.invokevirtual 52, 3) := by decide +kernel
theorem dX4_addPerson_44 : decode cX4_addPerson 44 = .ok (.iinc 3 1, 3) := by decide +kernel
theorem dX4_addPerson_47 : decode cX4_addPerson 47 = .ok (.goto (-16), 3) := by decide +kernel
theorem dX4_addPerson_50 : decode cX4_addPerson 50 = .ok (.iload_n 2, 1) := by decide +kernel
theorem dX4_addPerson_51 : decode cX4_addPerson 51 = .ok (.ireturn, 1) := by decide +kernel
theorem dX4_trait_0 : decode cX4_trait 0 = .ok (.iload_n 2, 1) := by decide +kernel
theorem dX4_trait_1 : decode cX4_trait 1 = .ok (.ifCond .ne 10, 3) := by decide +kernel
theorem dX4_trait_4 : decode cX4_trait 4 = .ok (.aload_n 0, 1) := by decide +kernel
theorem dX4_trait_5 : decode cX4_trait 5 = .ok (.getfield 9, 3) := by decide +kernel
theorem dX4_trait_8 : decode cX4_trait 8 = .ok (.iload_n 1, 1) := by decide +kernel
theorem dX4_trait_9 : decode cX4_trait 9 = .ok (.iaload, 1) := by decide +kernel
theorem dX4_trait_10 : decode cX4_trait 10 = .ok (.ireturn, 1) := by decide +kernel
theorem dX4_trait_11 : decode cX4_trait 11 = .ok (.iload_n 2, 1) := by decide +kernel
theorem dX4_trait_12 : decode cX4_trait 12 = .ok (.iconst 1, 1) := by decide +kernel
theorem dX4_trait_13 : decode cX4_trait 13 = .ok (.if_icmp .ne 12, 3) := by decide +kernel
theorem dX4_trait_16 : decode cX4_trait 16 = .ok (.aload_n 0, 1) := by decide +kernel
theorem dX4_trait_17 : decode cX4_trait 17 = .ok (.getfield 15, 3) := by decide +kernel
theorem dX4_trait_20 : decode cX4_trait 20 = .ok (.iload_n 1, 1) := by decide +kernel
theorem dX4_trait_21 : decode cX4_trait 21 = .ok (.iaload, 1) := by decide +kernel
theorem dX4_trait_22 : decode cX4_trait 22 = .ok (.goto 11, 3) := by decide +kernel
theorem dX4_trait_25 : decode cX4_trait 25 = .ok (.aload_n 0, 1) := by decide +kernel
theorem dX4_trait_26 : decode cX4_trait 26 = .ok (.iload_n 1, 1) := by decide +kernel
theorem dX4_trait_27 : decode cX4_trait 27 = .ok (.iload_n 2, 1) := by decide +kernel
theorem dX4_trait_28 : decode cX4_trait 28 = .ok (.iconst 2, 1) := by decide +kernel
theorem dX4_trait_29 : decode cX4_trait 29 = .ok (.isub, 1) := by decide +kernel
theorem dX4_trait_30 : decode cX4_trait 30 = .ok (.invokevirtual 56, 3) := by decide +kernel
theorem dX4_trait_33 : decode cX4_trait 33 = .ok (.ireturn, 1) := by decide +kernel
theorem dX4_setTrait_0 : decode cX4_setTrait 0 = .ok (.iload_n 2, 1) := by decide +kernel
theorem dX4_setTrait_1 : decode cX4_setTrait 1 = .ok (.ifCond .ne 13, 3) := by decide +kernel
theorem dX4_setTrait_4 : decode cX4_setTrait 4 = .ok (.aload_n 0, 1) := by decide +kernel
theorem dX4_setTrait_5 : decode cX4_setTrait 5 = .ok (.getfield 9, 3) := by decide +kernel
theorem dX4_setTrait_8 : decode cX4_setTrait 8 = .ok (.iload_n 1, 1) := by decide +kernel
theorem dX4_setTrait_9 : decode cX4_setTrait 9 = .ok (.iload_n 3, 1) := by decide +kernel
theorem dX4_setTrait_10 : decode cX4_setTrait 10 = .ok (.iastore, 1) := by decide +kernel
theorem dX4_setTrait_11 : decode cX4_setTrait 11 = .ok (.goto 27, 3) := by decide +kernel
theorem dX4_setTrait_14 : decode cX4_setTrait 14 = .ok (.iload_n 2, 1) := by decide +kernel
theorem dX4_setTrait_15 : decode cX4_setTrait 15 = .ok (.iconst 1, 1) := by decide +kernel
theorem dX4_setTrait_16 : decode cX4_setTrait 16 = .ok (.if_icmp .ne 13, 3) := by decide +kernel
theorem dX4_setTrait_19 : decode cX4_setTrait 19 = .ok (.aload_n 0, 1) := by decide +kernel
theorem dX4_setTrait_20 : decode cX4_setTrait 20 = .ok (.getfield 15, 3) := by decide +kernel
theorem dX4_setTrait_23 : decode cX4_setTrait 23 = .ok (.iload_n 1, 1) := by decide +kernel
theorem dX4_setTrait_24 : decode cX4_setTrait 24 = .ok (.iload_n 3, 1) := by decide +kernel
theorem dX4_setTrait_25 : decode cX4_setTrait 25 = .ok (.iastore, 1) := by decide +kernel
theorem dX4_setTrait_26 : decode cX4_setTrait 26 = .ok (.goto 12, 3) := by decide +kernel
theorem dX4_setTrait_29 : decode cX4_setTrait 29 = .ok (.aload_n 0, 1) := by decide +kernel
theorem dX4_setTrait_30 : decode cX4_setTrait 30 = .ok (.iload_n 1, 1) := by decide +kernel
theorem dX4_setTrait_31 : decode cX4_setTrait 31 = .ok (.iload_n 2, 1) := by decide +kernel
theorem dX4_setTrait_32 : decode cX4_setTrait 32 = .ok (.iconst 2, 1) := by decide +kernel
theorem dX4_setTrait_33 : decode cX4_setTrait 33 = .ok (.isub, 1) := by decide +kernel
theorem dX4_setTrait_34 : decode cX4_setTrait 34 = .ok (.iload_n 3, 1) := by decide +kernel
theorem dX4_setTrait_35 : decode cX4_setTrait 35 = .ok (.invokevirtual 52, 3) := by decide +kernel
theorem dX4_setTrait_38 : decode cX4_setTrait 38 = .ok (.return_, 1) := by decide +kernel
theorem dX4_viewOn_0 : decode cX4_viewOn 0 = .ok (.aload_n 0, 1) := by decide +kernel
theorem dX4_viewOn_1 : decode cX4_viewOn 1 = .ok (.getfield 18, 3) := by decide +kernel
theorem dX4_viewOn_4 : decode cX4_viewOn 4 = .ok (.iload_n 1, 1) := by decide +kernel
theorem dX4_viewOn_5 : decode cX4_viewOn 5 = .ok (.bipush 6, 2) := by decide +kernel
theorem dX4_viewOn_7 : decode cX4_viewOn 7 = .ok (.imul, 1) := by decide +kernel
theorem dX4_viewOn_8 : decode cX4_viewOn 8 = .ok (.iload_n 2, 1) := by decide +kernel
theorem dX4_viewOn_9 : decode cX4_viewOn 9 = .ok (.iadd, 1) := by decide +kernel
theorem dX4_viewOn_10 : decode cX4_viewOn 10 = .ok (.iaload, 1) := by decide +kernel
theorem dX4_viewOn_11 : decode cX4_viewOn 11 = .ok (.ireturn, 1) := by decide +kernel
theorem dX4_setView_0 : decode cX4_setView 0 = .ok (.aload_n 0, 1) := by decide +kernel
theorem dX4_setView_1 : decode cX4_setView 1 = .ok (.getfield 18, 3) := by decide +kernel
theorem dX4_setView_4 : decode cX4_setView 4 = .ok (.iload_n 1, 1) := by decide +kernel
theorem dX4_setView_5 : decode cX4_setView 5 = .ok (.bipush 6, 2) := by decide +kernel
theorem dX4_setView_7 : decode cX4_setView 7 = .ok (.imul, 1) := by decide +kernel
theorem dX4_setView_8 : decode cX4_setView 8 = .ok (.iload_n 2, 1) := by decide +kernel
theorem dX4_setView_9 : decode cX4_setView 9 = .ok (.iadd, 1) := by decide +kernel
theorem dX4_setView_10 : decode cX4_setView 10 = .ok (.iload_n 3, 1) := by decide +kernel
theorem dX4_setView_11 : decode cX4_setView 11 = .ok (.iastore, 1) := by decide +kernel
theorem dX4_setView_12 : decode cX4_setView 12 = .ok (.return_, 1) := by decide +kernel
theorem dX4_distance_0 : decode cX4_distance 0 = .ok (.aload_n 0, 1) := by decide +kernel
theorem dX4_distance_1 : decode cX4_distance 1 = .ok (.iload_n 1, 1) := by decide +kernel
theorem dX4_distance_2 : decode cX4_distance 2 = .ok (.iload_n 3, 1) := by decide +kernel
theorem dX4_distance_3 : decode cX4_distance 3 = .ok (.invokevirtual 56, 3) := by decide +kernel
theorem dX4_distance_6 : decode cX4_distance 6 = .ok (.aload_n 0, 1) := by decide +kernel
theorem dX4_distance_7 : decode cX4_distance 7 = .ok (.iload_n 2, 1) := by decide +kernel
theorem dX4_distance_8 : decode cX4_distance 8 = .ok (.iload_n 3, 1) := by decide +kernel
theorem dX4_distance_9 : decode cX4_distance 9 = .ok (.invokevirtual 56, 3) := by decide +kernel
theorem dX4_distance_12 : decode cX4_distance 12 = .ok (.isub, 1) := by decide +kernel
theorem dX4_distance_13 : decode cX4_distance 13 = .ok (.invokestatic 60, 3) := by decide +kernel
theorem dX4_distance_16 : decode cX4_distance 16 = .ok (.ireturn, 1) := by decide +kernel
theorem dX4_movesOf_0 : decode cX4_movesOf 0 = .ok (.aload_n 0, 1) := by decide +kernel
theorem dX4_movesOf_1 : decode cX4_movesOf 1 = .ok (.getfield 9, 3) := by decide +kernel
theorem dX4_movesOf_4 : decode cX4_movesOf 4 = .ok (.iload_n 1, 1) := by decide +kernel
theorem dX4_movesOf_5 : decode cX4_movesOf 5 = .ok (.iaload, 1) := by decide +kernel
theorem dX4_movesOf_6 : decode cX4_movesOf 6 = .ok (.iload_n 2, 1) := by decide +kernel
theorem dX4_movesOf_7 : decode cX4_movesOf 7 = .ok (.aload_n 0, 1) := by decide +kernel
theorem dX4_movesOf_8 : decode cX4_movesOf 8 = .ok (.getfield 28, 3) := by decide +kernel
theorem dX4_movesOf_11 : decode cX4_movesOf 11 = .ok (.invokestatic 66, 3) := by decide +kernel
theorem dX4_movesOf_14 : decode cX4_movesOf 14 = .ok (.ireturn, 1) := by decide +kernel
theorem dX4_strokesOf_0 : decode cX4_strokesOf 0 = .ok (.aload_n 0, 1) := by decide +kernel
theorem dX4_strokesOf_1 : decode cX4_strokesOf 1 = .ok (.getfield 9, 3) := by decide +kernel
theorem dX4_strokesOf_4 : decode cX4_strokesOf 4 = .ok (.iload_n 1, 1) := by decide +kernel
theorem dX4_strokesOf_5 : decode cX4_strokesOf 5 = .ok (.iaload, 1) := by decide +kernel
theorem dX4_strokesOf_6 : decode cX4_strokesOf 6 = .ok (.aload_n 0, 1) := by decide +kernel
theorem dX4_strokesOf_7 : decode cX4_strokesOf 7 = .ok (.getfield 15, 3) := by decide +kernel
theorem dX4_strokesOf_10 : decode cX4_strokesOf 10 = .ok (.iload_n 1, 1) := by decide +kernel
theorem dX4_strokesOf_11 : decode cX4_strokesOf 11 = .ok (.iaload, 1) := by decide +kernel
theorem dX4_strokesOf_12 : decode cX4_strokesOf 12 = .ok (.iload_n 2, 1) := by decide +kernel
theorem dX4_strokesOf_13 : decode cX4_strokesOf 13 = .ok (.aload_n 0, 1) := by decide +kernel
theorem dX4_strokesOf_14 : decode cX4_strokesOf 14 = .ok (.getfield 28, 3) := by decide +kernel
theorem dX4_strokesOf_17 : decode cX4_strokesOf 17 = .ok (.invokestatic 72, 3) := by decide +kernel
theorem dX4_strokesOf_20 : decode cX4_strokesOf 20 = .ok (.ireturn, 1) := by decide +kernel
theorem dX4_seat_0 : decode cX4_seat 0 = .ok (.aload_n 0, 1) := by decide +kernel
theorem dX4_seat_1 : decode cX4_seat 1 = .ok (.iload_n 1, 1) := by decide +kernel
theorem dX4_seat_2 : decode cX4_seat 2 = .ok (.putfield 37, 3) := by decide +kernel
theorem dX4_seat_5 : decode cX4_seat 5 = .ok (.aload_n 0, 1) := by decide +kernel
theorem dX4_seat_6 : decode cX4_seat 6 = .ok (.iload_n 2, 1) := by decide +kernel
theorem dX4_seat_7 : decode cX4_seat 7 = .ok (.putfield 40, 3) := by decide +kernel
theorem dX4_seat_10 : decode cX4_seat 10 = .ok (.return_, 1) := by decide +kernel
theorem dX4_leave_0 : decode cX4_leave 0 = .ok (.aload_n 0, 1) := by decide +kernel
theorem dX4_leave_1 : decode cX4_leave 1 = .ok (.iconst (-1), 1) := by decide +kernel
theorem dX4_leave_2 : decode cX4_leave 2 = .ok (.putfield 37, 3) := by decide +kernel
theorem dX4_leave_5 : decode cX4_leave 5 = .ok (.aload_n 0, 1) := by decide +kernel
theorem dX4_leave_6 : decode cX4_leave 6 = .ok (.iconst (-1), 1) := by decide +kernel
theorem dX4_leave_7 : decode cX4_leave 7 = .ok (.putfield 40, 3) := by decide +kernel
theorem dX4_leave_10 : decode cX4_leave 10 = .ok (.return_, 1) := by decide +kernel
theorem dX4_isManned_0 : decode cX4_isManned 0 = .ok (.aload_n 0, 1) := by decide +kernel
theorem dX4_isManned_1 : decode cX4_isManned 1 = .ok (.aload_n 0, 1) := by decide +kernel
theorem dX4_isManned_2 : decode cX4_isManned 2 = .ok (.getfield 37, 3) := by decide +kernel
theorem dX4_isManned_5 : decode cX4_isManned 5 = .ok (.invokevirtual 76, 3) := by decide +kernel
theorem dX4_isManned_8 : decode cX4_isManned 8 = .ok (.ifCond .eq 18, 3) := by decide +kernel
theorem dX4_isManned_11 : decode cX4_isManned 11 = .ok (.aload_n 0, 1) := by decide +kernel
theorem dX4_isManned_12 : decode cX4_isManned 12 = .ok (.aload_n 0, 1) := by decide +kernel
theorem dX4_isManned_13 : decode cX4_isManned 13 = .ok (.getfield 40, 3) := by decide +kernel
theorem dX4_isManned_16 : decode cX4_isManned 16 = .ok (.invokevirtual 76, 3) := by decide +kernel
theorem dX4_isManned_19 : decode cX4_isManned 19 = .ok (.ifCond .eq 7, 3) := by decide +kernel
theorem dX4_isManned_22 : decode cX4_isManned 22 = .ok (.iconst 1, 1) := by decide +kernel
theorem dX4_isManned_23 : decode cX4_isManned 23 = .ok (.goto 4, 3) := by decide +kernel
theorem dX4_isManned_26 : decode cX4_isManned 26 = .ok (.iconst 0, 1) := by decide +kernel
theorem dX4_isManned_27 : decode cX4_isManned 27 = .ok (.ireturn, 1) := by decide +kernel
theorem dX4_isAtHandle_0 : decode cX4_isAtHandle 0 = .ok (.iload_n 1, 1) := by decide +kernel
theorem dX4_isAtHandle_1 : decode cX4_isAtHandle 1 = .ok (.aload_n 0, 1) := by decide +kernel
theorem dX4_isAtHandle_2 : decode cX4_isAtHandle 2 = .ok (.getfield 37, 3) := by decide +kernel
theorem dX4_isAtHandle_5 : decode cX4_isAtHandle 5 = .ok (.if_icmp .eq 11, 3) := by decide +kernel
theorem dX4_isAtHandle_8 : decode cX4_isAtHandle 8 = .ok (.iload_n 1, 1) := by decide +kernel
theorem dX4_isAtHandle_9 : decode cX4_isAtHandle 9 = .ok (.aload_n 0, 1) := by decide +kernel
theorem dX4_isAtHandle_10 : decode cX4_isAtHandle 10 = .ok (.getfield 40, 3) := by decide +kernel
theorem dX4_isAtHandle_13 : decode cX4_isAtHandle 13 = .ok (.if_icmp .ne 7, 3) := by decide +kernel
theorem dX4_isAtHandle_16 : decode cX4_isAtHandle 16 = .ok (.iconst 1, 1) := by decide +kernel
theorem dX4_isAtHandle_17 : decode cX4_isAtHandle 17 = .ok (.goto 4, 3) := by decide +kernel
theorem dX4_isAtHandle_20 : decode cX4_isAtHandle 20 = .ok (.iconst 0, 1) := by decide +kernel
theorem dX4_isAtHandle_21 : decode cX4_isAtHandle 21 = .ok (.ireturn, 1) := by decide +kernel
theorem dX4_quarrelSet_0 : decode cX4_quarrelSet 0 = .ok (.iconst 0, 1) := by decide +kernel
theorem dX4_quarrelSet_1 : decode cX4_quarrelSet 1 = .ok (.istore_n 1, 1) := by decide +kernel
theorem dX4_quarrelSet_2 : decode cX4_quarrelSet 2 = .ok (.iconst 0, 1) := by decide +kernel
theorem dX4_quarrelSet_3 : decode cX4_quarrelSet 3 = .ok (.istore_n 2, 1) := by decide +kernel
theorem dX4_quarrelSet_4 : decode cX4_quarrelSet 4 = .ok (.iload_n 2, 1) := by decide +kernel
theorem dX4_quarrelSet_5 : decode cX4_quarrelSet 5 = .ok (.bipush 6, 2) := by decide +kernel
theorem dX4_quarrelSet_7 : decode cX4_quarrelSet 7 = .ok (.if_icmp .ge 38, 3) := by decide +kernel
theorem dX4_quarrelSet_10 : decode cX4_quarrelSet 10 = .ok (.aload_n 0, 1) := by decide +kernel
theorem dX4_quarrelSet_11 : decode cX4_quarrelSet 11 = .ok (.invokevirtual 80, 3) := by decide +kernel
theorem dX4_quarrelSet_14 : decode cX4_quarrelSet 14 = .ok (.ifCond .eq 31, 3) := by decide +kernel
theorem dX4_quarrelSet_17 : decode cX4_quarrelSet 17 = .ok (.aload_n 0, 1) := by decide +kernel
theorem dX4_quarrelSet_18 : decode cX4_quarrelSet 18 = .ok (.aload_n 0, 1) := by decide +kernel
theorem dX4_quarrelSet_19 : decode cX4_quarrelSet 19 = .ok (.getfield 37, 3) := by decide +kernel
theorem dX4_quarrelSet_22 : decode cX4_quarrelSet 22 = .ok (.aload_n 0, 1) := by decide +kernel
theorem dX4_quarrelSet_23 : decode cX4_quarrelSet 23 = .ok (.getfield 40, 3) := by decide +kernel
theorem dX4_quarrelSet_26 : decode cX4_quarrelSet 26 = .ok (.iload_n 2, 1) := by decide +kernel
theorem dX4_quarrelSet_27 : decode cX4_quarrelSet 27 = .ok (.invokevirtual 84, 3) := by decide +kernel
theorem dX4_quarrelSet_30 : decode cX4_quarrelSet 30 = .ok (.ifCond .eq 9, 3) := by decide +kernel
theorem dX4_quarrelSet_33 : decode cX4_quarrelSet 33 = .ok (.iload_n 1, 1) := by decide +kernel
theorem dX4_quarrelSet_34 : decode cX4_quarrelSet 34 = .ok (.iconst 1, 1) := by decide +kernel
theorem dX4_quarrelSet_35 : decode cX4_quarrelSet 35 = .ok (.iload_n 2, 1) := by decide +kernel
theorem dX4_quarrelSet_36 : decode cX4_quarrelSet 36 = .ok (.ishl, 1) := by decide +kernel
theorem dX4_quarrelSet_37 : decode cX4_quarrelSet 37 = .ok (.ior, 1) := by decide +kernel
theorem dX4_quarrelSet_38 : decode cX4_quarrelSet 38 = .ok (.istore_n 1, 1) := by decide +kernel
theorem dX4_quarrelSet_39 : decode cX4_quarrelSet 39 = .ok (.iinc 2 1, 3) := by decide +kernel
theorem dX4_quarrelSet_42 : decode cX4_quarrelSet 42 = .ok (.goto (-38), 3) := by decide +kernel
theorem dX4_quarrelSet_45 : decode cX4_quarrelSet 45 = .ok (.iload_n 1, 1) := by decide +kernel
theorem dX4_quarrelSet_46 : decode cX4_quarrelSet 46 = .ok (.ireturn, 1) := by decide +kernel
theorem dX4_allVoices_0 : decode cX4_allVoices 0 = .ok (.iconst 0, 1) := by decide +kernel
theorem dX4_allVoices_1 : decode cX4_allVoices 1 = .ok (.istore_n 1, 1) := by decide +kernel
theorem dX4_allVoices_2 : decode cX4_allVoices 2 = .ok (.iconst 0, 1) := by decide +kernel
theorem dX4_allVoices_3 : decode cX4_allVoices 3 = .ok (.istore_n 2, 1) := by decide +kernel
theorem dX4_allVoices_4 : decode cX4_allVoices 4 = .ok (.iload_n 2, 1) := by decide +kernel
theorem dX4_allVoices_5 : decode cX4_allVoices 5 = .ok (.aload_n 0, 1) := by decide +kernel
theorem dX4_allVoices_6 : decode cX4_allVoices 6 = .ok (.getfield 24, 3) := by decide +kernel
theorem dX4_allVoices_9 : decode cX4_allVoices 9 = .ok (.if_icmp .ge 18, 3) := by decide +kernel
theorem dX4_allVoices_12 : decode cX4_allVoices 12 = .ok (.iload_n 1, 1) := by decide +kernel
theorem dX4_allVoices_13 : decode cX4_allVoices 13 = .ok (.aload_n 0, 1) := by decide +kernel
theorem dX4_allVoices_14 : decode cX4_allVoices 14 = .ok (.getfield 15, 3) := by decide +kernel
theorem dX4_allVoices_17 : decode cX4_allVoices 17 = .ok (.iload_n 2, 1) := by decide +kernel
theorem dX4_allVoices_18 : decode cX4_allVoices 18 = .ok (.iaload, 1) := by decide +kernel
theorem dX4_allVoices_19 : decode cX4_allVoices 19 = .ok (.iadd, 1) := by decide +kernel
theorem dX4_allVoices_20 : decode cX4_allVoices 20 = .ok (.istore_n 1, 1) := by decide +kernel
theorem dX4_allVoices_21 : decode cX4_allVoices 21 = .ok (.iinc 2 1, 3) := by decide +kernel
theorem dX4_allVoices_24 : decode cX4_allVoices 24 = .ok (.goto (-20), 3) := by decide +kernel
theorem dX4_allVoices_27 : decode cX4_allVoices 27 = .ok (.iload_n 1, 1) := by decide +kernel
theorem dX4_allVoices_28 : decode cX4_allVoices 28 = .ok (.ireturn, 1) := by decide +kernel
theorem dX4_fullSpots_0 : decode cX4_fullSpots 0 = .ok (.iconst 0, 1) := by decide +kernel
theorem dX4_fullSpots_1 : decode cX4_fullSpots 1 = .ok (.istore_n 1, 1) := by decide +kernel
theorem dX4_fullSpots_2 : decode cX4_fullSpots 2 = .ok (.iconst 0, 1) := by decide +kernel
theorem dX4_fullSpots_3 : decode cX4_fullSpots 3 = .ok (.istore_n 2, 1) := by decide +kernel
theorem dX4_fullSpots_4 : decode cX4_fullSpots 4 = .ok (.iload_n 2, 1) := by decide +kernel
theorem dX4_fullSpots_5 : decode cX4_fullSpots 5 = .ok (.bipush 10, 2) := by decide +kernel
theorem dX4_fullSpots_7 : decode cX4_fullSpots 7 = .ok (.if_icmp .ge 22, 3) := by decide +kernel
theorem dX4_fullSpots_10 : decode cX4_fullSpots 10 = .ok (.aload_n 0, 1) := by decide +kernel
theorem dX4_fullSpots_11 : decode cX4_fullSpots 11 = .ok (.getfield 21, 3) := by decide +kernel
theorem dX4_fullSpots_14 : decode cX4_fullSpots 14 = .ok (.iload_n 2, 1) := by decide +kernel
theorem dX4_fullSpots_15 : decode cX4_fullSpots 15 = .ok (.iaload, 1) := by decide +kernel
theorem dX4_fullSpots_16 : decode cX4_fullSpots 16 = .ok (.iconst (-1), 1) := by decide +kernel
theorem dX4_fullSpots_17 : decode cX4_fullSpots 17 = .ok (.if_icmp .eq 6, 3) := by decide +kernel
theorem dX4_fullSpots_20 : decode cX4_fullSpots 20 = .ok (.iinc 1 1, 3) := by decide +kernel
theorem dX4_fullSpots_23 : decode cX4_fullSpots 23 = .ok (.iinc 2 1, 3) := by decide +kernel
theorem dX4_fullSpots_26 : decode cX4_fullSpots 26 = .ok (.goto (-22), 3) := by decide +kernel
theorem dX4_fullSpots_29 : decode cX4_fullSpots 29 = .ok (.iload_n 1, 1) := by decide +kernel
theorem dX4_fullSpots_30 : decode cX4_fullSpots 30 = .ok (.ireturn, 1) := by decide +kernel
theorem dX4_thinksLike_0 : decode cX4_thinksLike 0 = .ok (.aload_n 0, 1) := by decide +kernel
theorem dX4_thinksLike_1 : decode cX4_thinksLike 1 = .ok (.getfield 34, 3) := by decide +kernel
theorem dX4_thinksLike_4 : decode cX4_thinksLike 4 = .ok (.aload_n 1, 1) := by decide +kernel
theorem dX4_thinksLike_5 : decode cX4_thinksLike 5 = .ok (.getfield 34, 3) := by decide +kernel
theorem dX4_thinksLike_8 : decode cX4_thinksLike 8 = .ok (.if_icmp .eq 5, 3) := by decide +kernel
theorem dX4_thinksLike_11 : decode cX4_thinksLike 11 = .ok (.iconst 0, 1) := by decide +kernel
theorem dX4_thinksLike_12 : decode cX4_thinksLike 12 = .ok (.ireturn, 1) := by decide +kernel
theorem dX4_thinksLike_13 : decode cX4_thinksLike 13 = .ok (.iconst 0, 1) := by decide +kernel
theorem dX4_thinksLike_14 : decode cX4_thinksLike 14 = .ok (.istore_n 2, 1) := by decide +kernel
theorem dX4_thinksLike_15 : decode cX4_thinksLike 15 = .ok (.iload_n 2, 1) := by decide +kernel
theorem dX4_thinksLike_16 : decode cX4_thinksLike 16 = .ok (.aload_n 0, 1) := by decide +kernel
theorem dX4_thinksLike_17 : decode cX4_thinksLike 17 = .ok (.getfield 24, 3) := by decide +kernel
theorem dX4_thinksLike_20 : decode cX4_thinksLike 20 = .ok (.bipush 6, 2) := by decide +kernel
theorem dX4_thinksLike_22 : decode cX4_thinksLike 22 = .ok (.imul, 1) := by decide +kernel
theorem dX4_thinksLike_23 : decode cX4_thinksLike 23 = .ok (.if_icmp .ge 26, 3) := by decide +kernel
theorem dX4_thinksLike_26 : decode cX4_thinksLike 26 = .ok (.aload_n 0, 1) := by decide +kernel
theorem dX4_thinksLike_27 : decode cX4_thinksLike 27 = .ok (.getfield 18, 3) := by decide +kernel
theorem dX4_thinksLike_30 : decode cX4_thinksLike 30 = .ok (.iload_n 2, 1) := by decide +kernel
theorem dX4_thinksLike_31 : decode cX4_thinksLike 31 = .ok (.iaload, 1) := by decide +kernel
theorem dX4_thinksLike_32 : decode cX4_thinksLike 32 = .ok (.aload_n 1, 1) := by decide +kernel
theorem dX4_thinksLike_33 : decode cX4_thinksLike 33 = .ok (.getfield 18, 3) := by decide +kernel
theorem dX4_thinksLike_36 : decode cX4_thinksLike 36 = .ok (.iload_n 2, 1) := by decide +kernel
theorem dX4_thinksLike_37 : decode cX4_thinksLike 37 = .ok (.iaload, 1) := by decide +kernel
theorem dX4_thinksLike_38 : decode cX4_thinksLike 38 = .ok (.if_icmp .eq 5, 3) := by decide +kernel
theorem dX4_thinksLike_41 : decode cX4_thinksLike 41 = .ok (.iconst 0, 1) := by decide +kernel
theorem dX4_thinksLike_42 : decode cX4_thinksLike 42 = .ok (.ireturn, 1) := by decide +kernel
theorem dX4_thinksLike_43 : decode cX4_thinksLike 43 = .ok (.iinc 2 1, 3) := by decide +kernel
theorem dX4_thinksLike_46 : decode cX4_thinksLike 46 = .ok (.goto (-31), 3) := by decide +kernel
theorem dX4_thinksLike_49 : decode cX4_thinksLike 49 = .ok (.iconst 1, 1) := by decide +kernel
theorem dX4_thinksLike_50 : decode cX4_thinksLike 50 = .ok (.ireturn, 1) := by decide +kernel
theorem dX4_draw_0 : decode cX4_draw 0 = .ok (.aload_n 0, 1) := by decide +kernel
theorem dX4_draw_1 : decode cX4_draw 1 = .ok (.aload_n 0, 1) := by decide +kernel
theorem dX4_draw_2 : decode cX4_draw 2 = .ok (.getfield 43, 3) := by decide +kernel
theorem dX4_draw_5 : decode cX4_draw 5 = .ok (.ldc 87, 2) := by decide +kernel
theorem dX4_draw_7 : decode cX4_draw 7 = .ok (.imul, 1) := by decide +kernel
theorem dX4_draw_8 : decode cX4_draw 8 = .ok (.sipush 12345, 3) := by decide +kernel
theorem dX4_draw_11 : decode cX4_draw 11 = .ok (.iadd, 1) := by decide +kernel
theorem dX4_draw_12 : decode cX4_draw 12 = .ok (.putfield 43, 3) := by decide +kernel
theorem dX4_draw_15 : decode cX4_draw 15 = .ok (.aload_n 0, 1) := by decide +kernel
theorem dX4_draw_16 : decode cX4_draw 16 = .ok (.getfield 43, 3) := by decide +kernel
theorem dX4_draw_19 : decode cX4_draw 19 = .ok (.bipush 8, 2) := by decide +kernel
theorem dX4_draw_21 : decode cX4_draw 21 = .ok (.iushr, 1) := by decide +kernel
theorem dX4_draw_22 : decode cX4_draw 22 = .ok (.ireturn, 1) := by decide +kernel
theorem dX4_passMinute_0 : decode cX4_passMinute 0 = .ok (.aload_n 0, 1) := by decide +kernel
theorem dX4_passMinute_1 : decode cX4_passMinute 1 = .ok (.invokevirtual 80, 3) := by decide +kernel
theorem dX4_passMinute_4 : decode cX4_passMinute 4 = .ok (.ifCond .eq 10, 3) := by decide +kernel
theorem dX4_passMinute_7 : decode cX4_passMinute 7 = .ok (.aload_n 0, 1) := by decide +kernel
theorem dX4_passMinute_8 : decode cX4_passMinute 8 = .ok (.invokevirtual 88, 3) := by decide +kernel
theorem dX4_passMinute_11 : decode cX4_passMinute 11 = .ok (.goto 4, 3) := by decide +kernel
theorem dX4_passMinute_14 : decode cX4_passMinute 14 = .ok (.iconst 0, 1) := by decide +kernel
theorem dX4_passMinute_15 : decode cX4_passMinute 15 = .ok (.istore_n 1, 1) := by decide +kernel
theorem dX4_passMinute_16 : decode cX4_passMinute 16 = .ok (.aload_n 0, 1) := by decide +kernel
theorem dX4_passMinute_17 : decode cX4_passMinute 17 = .ok (.ldc 92, 2) := by decide +kernel
theorem dX4_passMinute_19 : decode cX4_passMinute 19 = .ok (.aload_n 0, 1) := by decide +kernel
theorem dX4_passMinute_20 : decode cX4_passMinute 20 = .ok (.getfield 31, 3) := by decide +kernel
theorem dX4_passMinute_23 : decode cX4_passMinute 23 = .ok (.iload_n 1, 1) := by decide +kernel
theorem dX4_passMinute_24 : decode cX4_passMinute 24 = .ok (.iadd, 1) := by decide +kernel
theorem dX4_passMinute_25 : decode cX4_passMinute 25 = .ok (.invokestatic 93, 3) := by decide +kernel
theorem dX4_passMinute_28 : decode cX4_passMinute 28 = .ok (.putfield 31, 3) := by decide +kernel
theorem dX4_passMinute_31 : decode cX4_passMinute 31 = .ok (.aload_n 0, 1) := by decide +kernel
theorem dX4_passMinute_32 : decode cX4_passMinute 32 = .ok (.ldc 96, 2) := by decide +kernel
theorem dX4_passMinute_34 : decode cX4_passMinute 34 = .ok (.aload_n 0, 1) := by decide +kernel
theorem dX4_passMinute_35 : decode cX4_passMinute 35 = .ok (.getfield 28, 3) := by decide +kernel
theorem dX4_passMinute_38 : decode cX4_passMinute 38 = .ok (.iconst 1, 1) := by decide +kernel
theorem dX4_passMinute_39 : decode cX4_passMinute 39 = .ok (.iadd, 1) := by decide +kernel
theorem dX4_passMinute_40 : decode cX4_passMinute 40 = .ok (.invokestatic 93, 3) := by decide +kernel
theorem dX4_passMinute_43 : decode cX4_passMinute 43 = .ok (.putfield 28, 3) := by decide +kernel
theorem dX4_passMinute_46 : decode cX4_passMinute 46 = .ok (.iload_n 1, 1) := by decide +kernel
theorem dX4_passMinute_47 : decode cX4_passMinute 47 = .ok (.ireturn, 1) := by decide +kernel
theorem dX4_passMinutes_0 : decode cX4_passMinutes 0 = .ok (.iconst 0, 1) := by decide +kernel
theorem dX4_passMinutes_1 : decode cX4_passMinutes 1 = .ok (.istore_n 2, 1) := by decide +kernel
theorem dX4_passMinutes_2 : decode cX4_passMinutes 2 = .ok (.iload_n 2, 1) := by decide +kernel
theorem dX4_passMinutes_3 : decode cX4_passMinutes 3 = .ok (.iload_n 1, 1) := by decide +kernel
theorem dX4_passMinutes_4 : decode cX4_passMinutes 4 = .ok (.if_icmp .ge 14, 3) := by decide +kernel
theorem dX4_passMinutes_7 : decode cX4_passMinutes 7 = .ok (.aload_n 0, 1) := by decide +kernel
theorem dX4_passMinutes_8 : decode cX4_passMinutes 8 = .ok (.invokevirtual 97, 3) := by decide +kernel
theorem dX4_passMinutes_11 : decode cX4_passMinutes 11 = .ok (.pop, 1) := by decide +kernel
theorem dX4_passMinutes_12 : decode cX4_passMinutes 12 = .ok (.iinc 2 1, 3) := by decide +kernel
theorem dX4_passMinutes_15 : decode cX4_passMinutes 15 = .ok (.goto (-13), 3) := by decide +kernel
theorem dX4_passMinutes_18 : decode cX4_passMinutes 18 = .ok (.return_, 1) := by decide +kernel
theorem dX4_pumpBy_0 : decode cX4_pumpBy 0 = .ok (.aload_n 0, 1) := by decide +kernel
theorem dX4_pumpBy_1 : decode cX4_pumpBy 1 = .ok (.iload_n 1, 1) := by decide +kernel
theorem dX4_pumpBy_2 : decode cX4_pumpBy 2 = .ok (.iload_n 2, 1) := by decide +kernel
theorem dX4_pumpBy_3 : decode cX4_pumpBy 3 = .ok (.invokevirtual 100, 3) := by decide +kernel
theorem dX4_pumpBy_6 : decode cX4_pumpBy 6 = .ok (.iconst 0, 1) := by decide +kernel
theorem dX4_pumpBy_7 : decode cX4_pumpBy 7 = .ok (.istore 4, 2) := by decide +kernel
theorem dX4_pumpBy_9 : decode cX4_pumpBy 9 = .ok (.iconst 0, 1) := by decide +kernel
theorem dX4_pumpBy_10 : decode cX4_pumpBy 10 = .ok (.istore 5, 2) := by decide +kernel
theorem dX4_pumpBy_12 : decode cX4_pumpBy 12 = .ok (.iload 5, 2) := by decide +kernel
theorem dX4_pumpBy_14 : decode cX4_pumpBy 14 = .ok (.iload_n 3, 1) := by decide +kernel
theorem dX4_pumpBy_15 : decode cX4_pumpBy 15 = .ok (.if_icmp .ge 18, 3) := by decide +kernel
theorem dX4_pumpBy_18 : decode cX4_pumpBy 18 = .ok (.iload 4, 2) := by decide +kernel
theorem dX4_pumpBy_20 : decode cX4_pumpBy 20 = .ok (.aload_n 0, 1) := by decide +kernel
theorem dX4_pumpBy_21 : decode cX4_pumpBy 21 = .ok (.invokevirtual 97, 3) := by decide +kernel
theorem dX4_pumpBy_24 : decode cX4_pumpBy 24 = .ok (.iadd, 1) := by decide +kernel
theorem dX4_pumpBy_25 : decode cX4_pumpBy 25 = .ok (.istore 4, 2) := by decide +kernel
theorem dX4_pumpBy_27 : decode cX4_pumpBy 27 = .ok (.iinc 5 1, 3) := by decide +kernel
theorem dX4_pumpBy_30 : decode cX4_pumpBy 30 = .ok (.goto (-18), 3) := by decide +kernel
theorem dX4_pumpBy_33 : decode cX4_pumpBy 33 = .ok (.iload 4, 2) := by decide +kernel
theorem dX4_pumpBy_35 : decode cX4_pumpBy 35 = .ok (.ireturn, 1) := by decide +kernel
theorem dX4_exchange_0 : decode cX4_exchange 0 = .ok (.aload_n 0, 1) := by decide +kernel
theorem dX4_exchange_1 : decode cX4_exchange 1 = .ok (.aload_n 0, 1) := by decide +kernel
theorem dX4_exchange_2 : decode cX4_exchange 2 = .ok (.getfield 37, 3) := by decide +kernel
theorem dX4_exchange_5 : decode cX4_exchange 5 = .ok (.aload_n 0, 1) := by decide +kernel
theorem dX4_exchange_6 : decode cX4_exchange 6 = .ok (.getfield 34, 3) := by decide +kernel
theorem dX4_exchange_9 : decode cX4_exchange 9 = .ok (.invokevirtual 56, 3) := by decide +kernel
theorem dX4_exchange_12 : decode cX4_exchange 12 = .ok (.istore_n 1, 1) := by decide +kernel
theorem dX4_exchange_13 : decode cX4_exchange 13 = .ok (.aload_n 0, 1) := by decide +kernel
theorem dX4_exchange_14 : decode cX4_exchange 14 = .ok (.aload_n 0, 1) := by decide +kernel
theorem dX4_exchange_15 : decode cX4_exchange 15 = .ok (.getfield 40, 3) := by decide +kernel
theorem dX4_exchange_18 : decode cX4_exchange 18 = .ok (.aload_n 0, 1) := by decide +kernel
theorem dX4_exchange_19 : decode cX4_exchange 19 = .ok (.getfield 34, 3) := by decide +kernel
theorem dX4_exchange_22 : decode cX4_exchange 22 = .ok (.invokevirtual 56, 3) := by decide +kernel
theorem dX4_exchange_25 : decode cX4_exchange 25 = .ok (.istore_n 2, 1) := by decide +kernel
theorem dX4_exchange_26 : decode cX4_exchange 26 = .ok (.iload_n 1, 1) := by decide +kernel
theorem dX4_exchange_27 : decode cX4_exchange 27 = .ok (.iload_n 2, 1) := by decide +kernel
theorem dX4_exchange_28 : decode cX4_exchange 28 = .ok (.if_icmp .ne 18, 3) := by decide +kernel
theorem dX4_exchange_31 : decode cX4_exchange 31 = .ok (.aload_n 0, 1) := by decide +kernel
theorem dX4_exchange_32 : decode cX4_exchange 32 = .ok (.aload_n 0, 1) := by decide +kernel
theorem dX4_exchange_33 : decode cX4_exchange 33 = .ok (.getfield 34, 3) := by decide +kernel
theorem dX4_exchange_36 : decode cX4_exchange 36 = .ok (.iconst 1, 1) := by decide +kernel
theorem dX4_exchange_37 : decode cX4_exchange 37 = .ok (.iadd, 1) := by decide +kernel
theorem dX4_exchange_38 : decode cX4_exchange 38 = .ok (.bipush 6, 2) := by decide +kernel
theorem dX4_exchange_40 : decode cX4_exchange 40 = .ok (.irem, 1) := by decide +kernel
theorem dX4_exchange_41 : decode cX4_exchange 41 = .ok (.putfield 34, 3) := by decide +kernel
theorem dX4_exchange_44 : decode cX4_exchange 44 = .ok (.iconst 0, 1) := by decide +kernel
theorem dX4_exchange_45 : decode cX4_exchange 45 = .ok (.ireturn, 1) := by decide +kernel
theorem dX4_exchange_46 : decode cX4_exchange 46 = .ok (.iload_n 1, 1) := by decide +kernel
theorem dX4_exchange_47 : decode cX4_exchange 47 = .ok (.iload_n 2, 1) := by decide +kernel
theorem dX4_exchange_48 : decode cX4_exchange 48 = .ok (.isub, 1) := by decide +kernel
theorem dX4_exchange_49 : decode cX4_exchange 49 = .ok (.invokestatic 60, 3) := by decide +kernel
theorem dX4_exchange_52 : decode cX4_exchange 52 = .ok (.istore_n 3, 1) := by decide +kernel
theorem dX4_exchange_53 : decode cX4_exchange 53 = .ok (.iload_n 1, 1) := by decide +kernel
theorem dX4_exchange_54 : decode cX4_exchange 54 = .ok (.iload_n 2, 1) := by decide +kernel
theorem dX4_exchange_55 : decode cX4_exchange 55 = .ok (.if_icmp .ge 7, 3) := by decide +kernel
theorem dX4_exchange_58 : decode cX4_exchange 58 = .ok (.iconst 1, 1) := by decide +kernel
theorem dX4_exchange_59 : decode cX4_exchange 59 = .ok (.goto 4, 3) := by decide +kernel
theorem dX4_exchange_62 : decode cX4_exchange 62 = .ok (.iconst (-1), 1) := by decide +kernel
theorem dX4_exchange_63 : decode cX4_exchange 63 = .ok (.istore 4, 2) := by decide +kernel
theorem dX4_exchange_65 : decode cX4_exchange 65 = .ok (.aload_n 0, 1) := by decide +kernel
theorem dX4_exchange_66 : decode cX4_exchange 66 = .ok (.getfield 9, 3) := by decide +kernel
theorem dX4_exchange_69 : decode cX4_exchange 69 = .ok (.aload_n 0, 1) := by decide +kernel
theorem dX4_exchange_70 : decode cX4_exchange 70 = .ok (.getfield 37, 3) := by decide +kernel
theorem dX4_exchange_73 : decode cX4_exchange 73 = .ok (.iaload, 1) := by decide +kernel
theorem dX4_exchange_74 : decode cX4_exchange 74 = .ok (.iload_n 3, 1) := by decide +kernel
theorem dX4_exchange_75 : decode cX4_exchange 75 = .ok (.aload_n 0, 1) := by decide +kernel
theorem dX4_exchange_76 : decode cX4_exchange 76 = .ok (.getfield 28, 3) := by decide +kernel
theorem dX4_exchange_79 : decode cX4_exchange 79 = .ok (.invokestatic 66, 3) := by decide +kernel
theorem dX4_exchange_82 : decode cX4_exchange 82 = .ok (.istore 5, 2) := by decide +kernel
theorem dX4_exchange_84 : decode cX4_exchange 84 = .ok (.aload_n 0, 1) := by decide +kernel
theorem dX4_exchange_85 : decode cX4_exchange 85 = .ok (.getfield 9, 3) := by decide +kernel
theorem dX4_exchange_88 : decode cX4_exchange 88 = .ok (.aload_n 0, 1) := by decide +kernel
theorem dX4_exchange_89 : decode cX4_exchange 89 = .ok (.getfield 40, 3) := by decide +kernel
theorem dX4_exchange_92 : decode cX4_exchange 92 = .ok (.iaload, 1) := by decide +kernel
theorem dX4_exchange_93 : decode cX4_exchange 93 = .ok (.iload_n 3, 1) := by decide +kernel
theorem dX4_exchange_94 : decode cX4_exchange 94 = .ok (.aload_n 0, 1) := by decide +kernel
theorem dX4_exchange_95 : decode cX4_exchange 95 = .ok (.getfield 28, 3) := by decide +kernel
theorem dX4_exchange_98 : decode cX4_exchange 98 = .ok (.invokestatic 66, 3) := by decide +kernel
theorem dX4_exchange_101 : decode cX4_exchange 101 = .ok (.istore 6, 2) := by decide +kernel
theorem dX4_exchange_103 : decode cX4_exchange 103 = .ok (.aload_n 0, 1) := by decide +kernel
theorem dX4_exchange_104 : decode cX4_exchange 104 = .ok (.aload_n 0, 1) := by decide +kernel
theorem dX4_exchange_105 : decode cX4_exchange 105 = .ok (.getfield 37, 3) := by decide +kernel
theorem dX4_exchange_108 : decode cX4_exchange 108 = .ok (.aload_n 0, 1) := by decide +kernel
theorem dX4_exchange_109 : decode cX4_exchange 109 = .ok (.getfield 34, 3) := by decide +kernel
theorem dX4_exchange_112 : decode cX4_exchange 112 = .ok (.iload_n 1, 1) := by decide +kernel
theorem dX4_exchange_113 : decode cX4_exchange 113 = .ok (.iload 4, 2) := by decide +kernel
theorem dX4_exchange_115 : decode cX4_exchange 115 = .ok (.iload 5, 2) := by decide +kernel
theorem dX4_exchange_117 : decode cX4_exchange 117 = .ok (.imul, 1) := by decide +kernel
theorem dX4_exchange_118 : decode cX4_exchange 118 = .ok (.iadd, 1) := by decide +kernel
theorem dX4_exchange_119 : decode cX4_exchange 119 = .ok (.invokestatic 104, 3) := by decide +kernel
theorem dX4_exchange_122 : decode cX4_exchange 122 = .ok (.invokevirtual 52, 3) := by decide +kernel
theorem dX4_exchange_125 : decode cX4_exchange 125 = .ok (.aload_n 0, 1) := by decide +kernel
theorem dX4_exchange_126 : decode cX4_exchange 126 = .ok (.aload_n 0, 1) := by decide +kernel
theorem dX4_exchange_127 : decode cX4_exchange 127 = .ok (.getfield 40, 3) := by decide +kernel
theorem dX4_exchange_130 : decode cX4_exchange 130 = .ok (.aload_n 0, 1) := by decide +kernel
theorem dX4_exchange_131 : decode cX4_exchange 131 = .ok (.getfield 34, 3) := by decide +kernel
theorem dX4_exchange_134 : decode cX4_exchange 134 = .ok (.iload_n 2, 1) := by decide +kernel
theorem dX4_exchange_135 : decode cX4_exchange 135 = .ok (.iload 4, 2) := by decide +kernel
theorem dX4_exchange_137 : decode cX4_exchange 137 = .ok (.iload 6, 2) := by decide +kernel
theorem dX4_exchange_139 : decode cX4_exchange 139 = .ok (.imul, 1) := by decide +kernel
theorem dX4_exchange_140 : decode cX4_exchange 140 = .ok (.isub, 1) := by decide +kernel
theorem dX4_exchange_141 : decode cX4_exchange 141 = .ok (.invokestatic 104, 3) := by decide +kernel
theorem dX4_exchange_144 : decode cX4_exchange 144 = .ok (.invokevirtual 52, 3) := by decide +kernel
theorem dX4_exchange_147 : decode cX4_exchange 147 = .ok (.aload_n 0, 1) := by decide +kernel
theorem dX4_exchange_148 : decode cX4_exchange 148 = .ok (.getfield 9, 3) := by decide +kernel
theorem dX4_exchange_151 : decode cX4_exchange 151 = .ok (.aload_n 0, 1) := by decide +kernel
theorem dX4_exchange_152 : decode cX4_exchange 152 = .ok (.getfield 37, 3) := by decide +kernel
theorem dX4_exchange_155 : decode cX4_exchange 155 = .ok (.iaload, 1) := by decide +kernel
theorem dX4_exchange_156 : decode cX4_exchange 156 = .ok (.aload_n 0, 1) := by decide +kernel
theorem dX4_exchange_157 : decode cX4_exchange 157 = .ok (.getfield 15, 3) := by decide +kernel
theorem dX4_exchange_160 : decode cX4_exchange 160 = .ok (.aload_n 0, 1) := by decide +kernel
theorem dX4_exchange_161 : decode cX4_exchange 161 = .ok (.getfield 37, 3) := by decide +kernel
theorem dX4_exchange_164 : decode cX4_exchange 164 = .ok (.iaload, 1) := by decide +kernel
theorem dX4_exchange_165 : decode cX4_exchange 165 = .ok (.iload_n 3, 1) := by decide +kernel
theorem dX4_exchange_166 : decode cX4_exchange 166 = .ok (.aload_n 0, 1) := by decide +kernel
theorem dX4_exchange_167 : decode cX4_exchange 167 = .ok (.getfield 28, 3) := by decide +kernel
theorem dX4_exchange_170 : decode cX4_exchange 170 = .ok (.invokestatic 72, 3) := by decide +kernel
theorem dX4_exchange_173 : decode cX4_exchange 173 = .ok (.aload_n 0, 1) := by decide +kernel
theorem dX4_exchange_174 : decode cX4_exchange 174 = .ok (.getfield 9, 3) := by decide +kernel
theorem dX4_exchange_177 : decode cX4_exchange 177 = .ok (.aload_n 0, 1) := by decide +kernel
theorem dX4_exchange_178 : decode cX4_exchange 178 = .ok (.getfield 40, 3) := by decide +kernel
theorem dX4_exchange_181 : decode cX4_exchange 181 = .ok (.iaload, 1) := by decide +kernel
theorem dX4_exchange_182 : decode cX4_exchange 182 = .ok (.aload_n 0, 1) := by decide +kernel
theorem dX4_exchange_183 : decode cX4_exchange 183 = .ok (.getfield 15, 3) := by decide +kernel
theorem dX4_exchange_186 : decode cX4_exchange 186 = .ok (.aload_n 0, 1) := by decide +kernel
theorem dX4_exchange_187 : decode cX4_exchange 187 = .ok (.getfield 40, 3) := by decide +kernel
theorem dX4_exchange_190 : decode cX4_exchange 190 = .ok (.iaload, 1) := by decide +kernel
theorem dX4_exchange_191 : decode cX4_exchange 191 = .ok (.iload_n 3, 1) := by decide +kernel
theorem dX4_exchange_192 : decode cX4_exchange 192 = .ok (.aload_n 0, 1) := by decide +kernel
theorem dX4_exchange_193 : decode cX4_exchange 193 = .ok (.getfield 28, 3) := by decide +kernel
theorem dX4_exchange_196 : decode cX4_exchange 196 = .ok (.invokestatic 72, 3) := by decide +kernel
theorem dX4_exchange_199 : decode cX4_exchange 199 = .ok (.iadd, 1) := by decide +kernel
theorem dX4_exchange_200 : decode cX4_exchange 200 = .ok (.ireturn, 1) := by decide +kernel
theorem dX4_heldView_0 : decode cX4_heldView 0 = .ok (.iload_n 0, 1) := by decide +kernel
theorem dX4_heldView_1 : decode cX4_heldView 1 = .ok (.bipush 9, 2) := by decide +kernel
theorem dX4_heldView_3 : decode cX4_heldView 3 = .ok (.if_icmp .le 6, 3) := by decide +kernel
theorem dX4_heldView_6 : decode cX4_heldView 6 = .ok (.bipush 9, 2) := by decide +kernel
theorem dX4_heldView_8 : decode cX4_heldView 8 = .ok (.ireturn, 1) := by decide +kernel
theorem dX4_heldView_9 : decode cX4_heldView 9 = .ok (.iload_n 0, 1) := by decide +kernel
theorem dX4_heldView_10 : decode cX4_heldView 10 = .ok (.bipush (-9), 2) := by decide +kernel
theorem dX4_heldView_12 : decode cX4_heldView 12 = .ok (.if_icmp .ge 8, 3) := by decide +kernel
theorem dX4_heldView_15 : decode cX4_heldView 15 = .ok (.bipush (-9), 2) := by decide +kernel
theorem dX4_heldView_17 : decode cX4_heldView 17 = .ok (.goto 4, 3) := by decide +kernel
theorem dX4_heldView_20 : decode cX4_heldView 20 = .ok (.iload_n 0, 1) := by decide +kernel
theorem dX4_heldView_21 : decode cX4_heldView 21 = .ok (.ireturn, 1) := by decide +kernel
theorem dX5_init_0 : decode cX5_init 0 = .ok (.aload_n 0, 1) := by decide +kernel
theorem dX5_init_1 : decode cX5_init 1 = .ok (.invokespecial 3, 3) := by decide +kernel
theorem dX5_init_4 : decode cX5_init 4 = .ok (.aload_n 0, 1) := by decide +kernel
theorem dX5_init_5 : decode cX5_init 5 = .ok (.new 9, 3) := by decide +kernel
theorem dX5_init_8 : decode cX5_init 8 = .ok (.dup, 1) := by decide +kernel
theorem dX5_init_9 : decode cX5_init 9 = .ok (.invokespecial 11, 3) := by decide +kernel
theorem dX5_init_12 : decode cX5_init 12 = .ok (.putfield 12, 3) := by decide +kernel
theorem dX5_init_15 : decode cX5_init 15 = .ok (.aload_n 0, 1) := by decide +kernel
theorem dX5_init_16 : decode cX5_init 16 = .ok (.new 9, 3) := by decide +kernel
theorem dX5_init_19 : decode cX5_init 19 = .ok (.dup, 1) := by decide +kernel
theorem dX5_init_20 : decode cX5_init 20 = .ok (.invokespecial 11, 3) := by decide +kernel
theorem dX5_init_23 : decode cX5_init 23 = .ok (.putfield 16, 3) := by decide +kernel
theorem dX5_init_26 : decode cX5_init 26 = .ok (.aload_n 0, 1) := by decide +kernel
theorem dX5_init_27 : decode cX5_init 27 = .ok (.new 9, 3) := by decide +kernel
theorem dX5_init_30 : decode cX5_init 30 = .ok (.dup, 1) := by decide +kernel
theorem dX5_init_31 : decode cX5_init 31 = .ok (.invokespecial 11, 3) := by decide +kernel
theorem dX5_init_34 : decode cX5_init 34 = .ok (.putfield 19, 3) := by decide +kernel
theorem dX5_init_37 : decode cX5_init 37 = .ok (.aload_n 0, 1) := by decide +kernel
theorem dX5_init_38 : decode cX5_init 38 = .ok (.iconst 0, 1) := by decide +kernel
theorem dX5_init_39 : decode cX5_init 39 = .ok (.putfield 22, 3) := by decide +kernel
theorem dX5_init_42 : decode cX5_init 42 = .ok (.aload_n 0, 1) := by decide +kernel
theorem dX5_init_43 : decode cX5_init 43 = .ok (.new 26, 3) := by decide +kernel
theorem dX5_init_46 : decode cX5_init 46 = .ok (.dup, 1) := by decide +kernel
theorem dX5_init_47 : decode cX5_init 47 = .ok (.invokespecial 28, 3) := by decide +kernel
theorem dX5_init_50 : decode cX5_init 50 = .ok (.putfield 29, 3) := by decide +kernel
theorem dX5_init_53 : decode cX5_init 53 = .ok (.aload_n 0, 1) := by decide +kernel
theorem dX5_init_54 : decode cX5_init 54 = .ok (.new 33, 3) := by decide +kernel
theorem dX5_init_57 : decode cX5_init 57 = .ok (.dup, 1) := by decide +kernel
theorem dX5_init_58 : decode cX5_init 58 = .ok (.invokespecial 35, 3) := by decide +kernel
theorem dX5_init_61 : decode cX5_init 61 = .ok (.putfield 36, 3) := by decide +kernel
theorem dX5_init_64 : decode cX5_init 64 = .ok (.aload_n 0, 1) := by decide +kernel
theorem dX5_init_65 : decode cX5_init 65 = .ok (.iconst 4, 1) := by decide +kernel
theorem dX5_init_66 : decode cX5_init 66 = .ok (.anewarray 40, 3) := by decide +kernel
theorem dX5_init_69 : decode cX5_init 69 = .ok (.putfield 42, 3) := by decide +kernel
theorem dX5_init_72 : decode cX5_init 72 = .ok (.aload_n 0, 1) := by decide +kernel
theorem dX5_init_73 : decode cX5_init 73 = .ok (.bipush 7, 2) := by decide +kernel
theorem dX5_init_75 : decode cX5_init 75 = .ok (.newarray .int, 2) := by decide +kernel
theorem dX5_init_77 : decode cX5_init 77 = .ok (.putfield 46, 3) := by decide +kernel
theorem dX5_init_80 : decode cX5_init 80 = .ok (.iconst 0, 1) := by decide +kernel
theorem dX5_init_81 : decode cX5_init 81 = .ok (.istore_n 1, 1) := by decide +kernel
theorem dX5_init_82 : decode cX5_init 82 = .ok (.iload_n 1, 1) := by decide +kernel
theorem dX5_init_83 : decode cX5_init 83 = .ok (.iconst 4, 1) := by decide +kernel
theorem dX5_init_84 : decode cX5_init 84 = .ok (.if_icmp .ge 22, 3) := by decide +kernel
theorem dX5_init_87 : decode cX5_init 87 = .ok (.aload_n 0, 1) := by decide +kernel
theorem dX5_init_88 : decode cX5_init 88 = .ok (.getfield 42, 3) := by decide +kernel
theorem dX5_init_91 : decode cX5_init 91 = .ok (.iload_n 1, 1) := by decide +kernel
theorem dX5_init_92 : decode cX5_init 92 = .ok (.new 40, 3) := by decide +kernel
theorem dX5_init_95 : decode cX5_init 95 = .ok (.dup, 1) := by decide +kernel
theorem dX5_init_96 : decode cX5_init 96 = .ok (.invokespecial 50, 3) := by decide +kernel
theorem dX5_init_99 : decode cX5_init 99 = .ok (.aastore, 1) := by decide +kernel
theorem dX5_init_100 : decode cX5_init 100 = .ok (.iinc 1 1, 3) := by decide +kernel
theorem dX5_init_103 : decode cX5_init 103 = .ok (.goto (-21), 3) := by decide +kernel
theorem dX5_init_106 : decode cX5_init 106 = .ok (.return_, 1) := by decide +kernel
theorem dX5_person_0 : decode cX5_person 0 = .ok (.iload_n 1, 1) := by decide +kernel
theorem dX5_person_1 : decode cX5_person 1 = .ok (.iconst 0, 1) := by decide +kernel
theorem dX5_person_2 : decode cX5_person 2 = .ok (.bipush 6, 2) := by decide +kernel
theorem dX5_person_4 : decode cX5_person 4 = .ok (.invokestatic 51, 3) := by decide +kernel
theorem dX5_person_7 : decode cX5_person 7 = .ok (.ifCond .eq 10, 3) := by decide +kernel
theorem dX5_person_10 : decode cX5_person 10 = .ok (.aload_n 0, 1) := by decide +kernel
theorem dX5_person_11 : decode cX5_person 11 = .ok (.ldc 55, 2) := by decide +kernel
theorem dX5_person_13 : decode cX5_person 13 = .ok (.invokevirtual 56, 3) := by decide +kernel
theorem dX5_person_16 : decode cX5_person 16 = .ok (.ireturn, 1) := by decide +kernel
theorem dX5_person_17 : decode cX5_person 17 = .ok (.aload_n 0, 1) := by decide +kernel
theorem dX5_person_18 : decode cX5_person 18 = .ok (.getfield 12, 3) := by decide +kernel
theorem dX5_person_21 : decode cX5_person 21 = .ok (.invokevirtual 60, 3) := by decide +kernel
theorem dX5_person_24 : decode cX5_person 24 = .ok (.ifCond .eq 10, 3) := by decide +kernel
theorem dX5_person_27 : decode cX5_person 27 = .ok (.aload_n 0, 1) := by decide +kernel
theorem dX5_person_28 : decode cX5_person 28 = .ok (.ldc 64, 2) := by decide +kernel
theorem dX5_person_30 : decode cX5_person 30 = .ok (.invokevirtual 56, 3) := by decide +kernel
theorem dX5_person_33 : decode cX5_person 33 = .ok (.ireturn, 1) := by decide +kernel
theorem dX5_person_34 : decode cX5_person 34 = .ok (.aload_n 0, 1) := by decide +kernel
theorem dX5_person_35 : decode cX5_person 35 = .ok (.getfield 12, 3) := by decide +kernel
theorem dX5_person_38 : decode cX5_person 38 = .ok (.iload_n 1, 1) := by decide +kernel
theorem dX5_person_39 : decode cX5_person 39 = .ok (.invokevirtual 65, 3) := by decide +kernel
theorem dX5_person_42 : decode cX5_person 42 = .ok (.ireturn, 1) := by decide +kernel
theorem dX5_of_0 : decode cX5_of 0 = .ok (.aload_n 0, 1) := by decide +kernel
theorem dX5_of_1 : decode cX5_of 1 = .ok (.getfield 12, 3) := by decide +kernel
theorem dX5_of_4 : decode cX5_of 4 = .ok (.iload_n 1, 1) := by decide +kernel
theorem dX5_of_5 : decode cX5_of 5 = .ok (.invokevirtual 68, 3) := by decide +kernel
theorem dX5_of_8 : decode cX5_of 8 = .ok (.ifCond .eq 13, 3) := by decide +kernel
theorem dX5_of_11 : decode cX5_of 11 = .ok (.iload_n 2, 1) := by decide +kernel
theorem dX5_of_12 : decode cX5_of 12 = .ok (.iconst 0, 1) := by decide +kernel
theorem dX5_of_13 : decode cX5_of 13 = .ok (.bipush 8, 2) := by decide +kernel
theorem dX5_of_15 : decode cX5_of 15 = .ok (.invokestatic 51, 3) := by decide +kernel
theorem dX5_of_18 : decode cX5_of 18 = .ok (.ifCond .eq 10, 3) := by decide +kernel
theorem dX5_of_21 : decode cX5_of 21 = .ok (.aload_n 0, 1) := by decide +kernel
theorem dX5_of_22 : decode cX5_of 22 = .ok (.ldc 55, 2) := by decide +kernel
theorem dX5_of_24 : decode cX5_of 24 = .ok (.invokevirtual 56, 3) := by decide +kernel
theorem dX5_of_27 : decode cX5_of 27 = .ok (.ireturn, 1) := by decide +kernel
theorem dX5_of_28 : decode cX5_of 28 = .ok (.iload_n 2, 1) := by decide +kernel
theorem dX5_of_29 : decode cX5_of 29 = .ok (.bipush 8, 2) := by decide +kernel
theorem dX5_of_31 : decode cX5_of 31 = .ok (.if_icmp .ne 20, 3) := by decide +kernel
theorem dX5_of_34 : decode cX5_of 34 = .ok (.aload_n 0, 1) := by decide +kernel
theorem dX5_of_35 : decode cX5_of 35 = .ok (.getfield 12, 3) := by decide +kernel
theorem dX5_of_38 : decode cX5_of 38 = .ok (.iload_n 1, 1) := by decide +kernel
theorem dX5_of_39 : decode cX5_of 39 = .ok (.invokevirtual 72, 3) := by decide +kernel
theorem dX5_of_42 : decode cX5_of 42 = .ok (.ifCond .eq 7, 3) := by decide +kernel
theorem dX5_of_45 : decode cX5_of 45 = .ok (.iconst 1, 1) := by decide +kernel
theorem dX5_of_46 : decode cX5_of 46 = .ok (.goto 4, 3) := by decide +kernel
theorem dX5_of_49 : decode cX5_of 49 = .ok (.iconst 0, 1) := by decide +kernel
theorem dX5_of_50 : decode cX5_of 50 = .ok (.ireturn, 1) := by decide +kernel
theorem dX5_of_51 : decode cX5_of 51 = .ok (.aload_n 0, 1) := by decide +kernel
theorem dX5_of_52 : decode cX5_of 52 = .ok (.getfield 12, 3) := by decide +kernel
theorem dX5_of_55 : decode cX5_of 55 = .ok (.iload_n 1, 1) := by decide +kernel
theorem dX5_of_56 : decode cX5_of 56 = .ok (.iload_n 2, 1) := by decide +kernel
theorem dX5_of_57 : decode cX5_of 57 = .ok (.invokevirtual 75, 3) := by decide +kernel
theorem dX5_of_60 : decode cX5_of 60 = .ok (.ireturn, 1) := by decide +kernel
theorem dX5_change_0 : decode cX5_change 0 = .ok (.aload_n 0, 1) := by decide +kernel
theorem dX5_change_1 : decode cX5_change 1 = .ok (.getfield 12, 3) := by decide +kernel
theorem dX5_change_4 : decode cX5_change 4 = .ok (.iload_n 1, 1) := by decide +kernel
theorem dX5_change_5 : decode cX5_change 5 = .ok (.invokevirtual 68, 3) := by decide +kernel
theorem dX5_change_8 : decode cX5_change 8 = .ok (.ifCond .eq 21, 3) := by decide +kernel
theorem dX5_change_11 : decode cX5_change 11 = .ok (.iload_n 2, 1) := by decide +kernel
theorem dX5_change_12 : decode cX5_change 12 = .ok (.iconst 0, 1) := by decide +kernel
theorem dX5_change_13 : decode cX5_change 13 = .ok (.bipush 7, 2) := by decide +kernel
theorem dX5_change_15 : decode cX5_change 15 = .ok (.invokestatic 51, 3) := by decide +kernel
theorem dX5_change_18 : decode cX5_change 18 = .ok (.ifCond .ne 11, 3) := by decide +kernel
theorem dX5_change_21 : decode cX5_change 21 = .ok (.iload_n 2, 1) := by decide +kernel
theorem dX5_change_22 : decode cX5_change 22 = .ok (.iload_n 3, 1) := by decide +kernel
theorem dX5_change_23 : decode cX5_change 23 = .ok (.invokestatic 79, 3) := by decide +kernel
theorem dX5_change_26 : decode cX5_change 26 = .ok (.ifCond .eq 10, 3) := by decide +kernel
theorem dX5_change_29 : decode cX5_change 29 = .ok (.aload_n 0, 1) := by decide +kernel
theorem dX5_change_30 : decode cX5_change 30 = .ok (.ldc 55, 2) := by decide +kernel
theorem dX5_change_32 : decode cX5_change 32 = .ok (.invokevirtual 56, 3) := by decide +kernel
theorem dX5_change_35 : decode cX5_change 35 = .ok (.ireturn, 1) := by decide +kernel
theorem dX5_change_36 : decode cX5_change 36 = .ok (.aload_n 0, 1) := by decide +kernel
theorem dX5_change_37 : decode cX5_change 37 = .ok (.getfield 12, 3) := by decide +kernel
theorem dX5_change_40 : decode cX5_change 40 = .ok (.iload_n 1, 1) := by decide +kernel
theorem dX5_change_41 : decode cX5_change 41 = .ok (.iload_n 2, 1) := by decide +kernel
theorem dX5_change_42 : decode cX5_change 42 = .ok (.invokevirtual 75, 3) := by decide +kernel
theorem dX5_change_45 : decode cX5_change 45 = .ok (.istore 4, 2) := by decide +kernel
theorem dX5_change_47 : decode cX5_change 47 = .ok (.aload_n 0, 1) := by decide +kernel
theorem dX5_change_48 : decode cX5_change 48 = .ok (.getfield 12, 3) := by decide +kernel
theorem dX5_change_51 : decode cX5_change 51 = .ok (.iload_n 1, 1) := by decide +kernel
theorem dX5_change_52 : decode cX5_change 52 = .ok (.iload_n 2, 1) := by decide +kernel
theorem dX5_change_53 : decode cX5_change 53 = .ok (.iload_n 3, 1) := by decide +kernel
theorem dX5_change_54 : decode cX5_change 54 = .ok (.invokevirtual 83, 3) := by decide +kernel
theorem dX5_change_57 : decode cX5_change 57 = .ok (.iload 4, 2) := by decide +kernel
theorem dX5_change_59 : decode cX5_change 59 = .ok (.ireturn, 1) := by decide +kernel
theorem dX5_reply_0 : decode cX5_reply 0 = .ok (.aload_n 0, 1) := by decide +kernel
theorem dX5_reply_1 : decode cX5_reply 1 = .ok (.getfield 12, 3) := by decide +kernel
theorem dX5_reply_4 : decode cX5_reply 4 = .ok (.iload_n 1, 1) := by decide +kernel
theorem dX5_reply_5 : decode cX5_reply 5 = .ok (.invokevirtual 68, 3) := by decide +kernel
theorem dX5_reply_8 : decode cX5_reply 8 = .ok (.ifCond .eq 22, 3) := by decide +kernel
theorem dX5_reply_11 : decode cX5_reply 11 = .ok (.iload_n 2, 1) := by decide +kernel
theorem dX5_reply_12 : decode cX5_reply 12 = .ok (.iconst 1, 1) := by decide +kernel
theorem dX5_reply_13 : decode cX5_reply 13 = .ok (.bipush 18, 2) := by decide +kernel
theorem dX5_reply_15 : decode cX5_reply 15 = .ok (.invokestatic 51, 3) := by decide +kernel
theorem dX5_reply_18 : decode cX5_reply 18 = .ok (.ifCond .ne 12, 3) := by decide +kernel
theorem dX5_reply_21 : decode cX5_reply 21 = .ok (.iload_n 3, 1) := by decide +kernel
theorem dX5_reply_22 : decode cX5_reply 22 = .ok (.iconst 0, 1) := by decide +kernel
theorem dX5_reply_23 : decode cX5_reply 23 = .ok (.iconst 1, 1) := by decide +kernel
theorem dX5_reply_24 : decode cX5_reply 24 = .ok (.invokestatic 51, 3) := by decide +kernel
theorem dX5_reply_27 : decode cX5_reply 27 = .ok (.ifCond .eq 10, 3) := by decide +kernel
theorem dX5_reply_30 : decode cX5_reply 30 = .ok (.aload_n 0, 1) := by decide +kernel
theorem dX5_reply_31 : decode cX5_reply 31 = .ok (.ldc 55, 2) := by decide +kernel
theorem dX5_reply_33 : decode cX5_reply 33 = .ok (.invokevirtual 56, 3) := by decide +kernel
theorem dX5_reply_36 : decode cX5_reply 36 = .ok (.ireturn, 1) := by decide +kernel
theorem dX5_reply_37 : decode cX5_reply 37 = .ok (.iload_n 3, 1) := by decide +kernel
theorem dX5_reply_38 : decode cX5_reply 38 = .ok (.ifCond .ne 15, 3) := by decide +kernel
theorem dX5_reply_41 : decode cX5_reply 41 = .ok (.aload_n 0, 1) := by decide +kernel
theorem dX5_reply_42 : decode cX5_reply 42 = .ok (.getfield 12, 3) := by decide +kernel
theorem dX5_reply_45 : decode cX5_reply 45 = .ok (.iload_n 1, 1) := by decide +kernel
theorem dX5_reply_46 : decode cX5_reply 46 = .ok (.iload_n 2, 1) := by decide +kernel
theorem dX5_reply_47 : decode cX5_reply 47 = .ok (.invokevirtual 87, 3) := by decide +kernel
theorem dX5_reply_50 : decode cX5_reply 50 = .ok (.goto 12, 3) := by decide +kernel
theorem dX5_reply_53 : decode cX5_reply 53 = .ok (.aload_n 0, 1) := by decide +kernel
theorem dX5_reply_54 : decode cX5_reply 54 = .ok (.getfield 12, 3) := by decide +kernel
theorem dX5_reply_57 : decode cX5_reply 57 = .ok (.iload_n 1, 1) := by decide +kernel
theorem dX5_reply_58 : decode cX5_reply 58 = .ok (.iload_n 2, 1) := by decide +kernel
theorem dX5_reply_59 : decode cX5_reply 59 = .ok (.invokevirtual 90, 3) := by decide +kernel
theorem dX5_reply_62 : decode cX5_reply 62 = .ok (.ireturn, 1) := by decide +kernel
theorem dX5_apart_0 : decode cX5_apart 0 = .ok (.aload_n 0, 1) := by decide +kernel
theorem dX5_apart_1 : decode cX5_apart 1 = .ok (.getfield 12, 3) := by decide +kernel
theorem dX5_apart_4 : decode cX5_apart 4 = .ok (.iload_n 1, 1) := by decide +kernel
theorem dX5_apart_5 : decode cX5_apart 5 = .ok (.invokevirtual 68, 3) := by decide +kernel
theorem dX5_apart_8 : decode cX5_apart 8 = .ok (.ifCond .eq 21, 3) := by decide +kernel
theorem dX5_apart_11 : decode cX5_apart 11 = .ok (.aload_n 0, 1) := by decide +kernel
theorem dX5_apart_12 : decode cX5_apart 12 = .ok (.getfield 12, 3) := by decide +kernel
theorem dX5_apart_15 : decode cX5_apart 15 = .ok (.iload_n 2, 1) := by decide +kernel
theorem dX5_apart_16 : decode cX5_apart 16 = .ok (.invokevirtual 68, 3) := by decide +kernel
theorem dX5_apart_19 : decode cX5_apart 19 = .ok (.ifCond .eq 10, 3) := by decide +kernel
theorem dX5_apart_22 : decode cX5_apart 22 = .ok (.iload_n 3, 1) := by decide +kernel
theorem dX5_apart_23 : decode cX5_apart 23 = .ok (.invokestatic 93, 3) := by decide +kernel
theorem dX5_apart_26 : decode cX5_apart 26 = .ok (.ifCond .eq 10, 3) := by decide +kernel
theorem dX5_apart_29 : decode cX5_apart 29 = .ok (.aload_n 0, 1) := by decide +kernel
theorem dX5_apart_30 : decode cX5_apart 30 = .ok (.ldc 55, 2) := by decide +kernel
theorem dX5_apart_32 : decode cX5_apart 32 = .ok (.invokevirtual 56, 3) := by decide +kernel
theorem dX5_apart_35 : decode cX5_apart 35 = .ok (.ireturn, 1) := by decide +kernel
theorem dX5_apart_36 : decode cX5_apart 36 = .ok (.aload_n 0, 1) := by decide +kernel
theorem dX5_apart_37 : decode cX5_apart 37 = .ok (.getfield 12, 3) := by decide +kernel
theorem dX5_apart_40 : decode cX5_apart 40 = .ok (.iload_n 1, 1) := by decide +kernel
theorem dX5_apart_41 : decode cX5_apart 41 = .ok (.iload_n 2, 1) := by decide +kernel
theorem dX5_apart_42 : decode cX5_apart 42 = .ok (.iload_n 3, 1) := by decide +kernel
theorem dX5_apart_43 : decode cX5_apart 43 = .ok (.invokevirtual 96, 3) := by decide +kernel
theorem dX5_apart_46 : decode cX5_apart 46 = .ok (.ireturn, 1) := by decide +kernel
theorem dX5_pair_0 : decode cX5_pair 0 = .ok (.aload_n 0, 1) := by decide +kernel
theorem dX5_pair_1 : decode cX5_pair 1 = .ok (.iload_n 1, 1) := by decide +kernel
theorem dX5_pair_2 : decode cX5_pair 2 = .ok (.iload_n 2, 1) := by decide +kernel
theorem dX5_pair_3 : decode cX5_pair 3 = .ok (.invokevirtual 100, 3) := by decide +kernel
theorem dX5_pair_6 : decode cX5_pair 6 = .ok (.ifCond .eq 10, 3) := by decide +kernel
theorem dX5_pair_9 : decode cX5_pair 9 = .ok (.aload_n 0, 1) := by decide +kernel
theorem dX5_pair_10 : decode cX5_pair 10 = .ok (.ldc 55, 2) := by decide +kernel
theorem dX5_pair_12 : decode cX5_pair 12 = .ok (.invokevirtual 56, 3) := by decide +kernel
theorem dX5_pair_15 : decode cX5_pair 15 = .ok (.ireturn, 1) := by decide +kernel
theorem dX5_pair_16 : decode cX5_pair 16 = .ok (.aload_n 0, 1) := by decide +kernel
theorem dX5_pair_17 : decode cX5_pair 17 = .ok (.getfield 12, 3) := by decide +kernel
theorem dX5_pair_20 : decode cX5_pair 20 = .ok (.iload_n 1, 1) := by decide +kernel
theorem dX5_pair_21 : decode cX5_pair 21 = .ok (.iload_n 2, 1) := by decide +kernel
theorem dX5_pair_22 : decode cX5_pair 22 = .ok (.invokevirtual 103, 3) := by decide +kernel
theorem dX5_pair_25 : decode cX5_pair 25 = .ok (.aload_n 0, 1) := by decide +kernel
theorem dX5_pair_26 : decode cX5_pair 26 = .ok (.getfield 12, 3) := by decide +kernel
theorem dX5_pair_29 : decode cX5_pair 29 = .ok (.invokevirtual 107, 3) := by decide +kernel
theorem dX5_pair_32 : decode cX5_pair 32 = .ok (.invokestatic 111, 3) := by decide +kernel
theorem dX5_pair_35 : decode cX5_pair 35 = .ok (.ireturn, 1) := by decide +kernel
theorem dX5_rest_0 : decode cX5_rest 0 = .ok (.aload_n 0, 1) := by decide +kernel
theorem dX5_rest_1 : decode cX5_rest 1 = .ok (.getfield 12, 3) := by decide +kernel
theorem dX5_rest_4 : decode cX5_rest 4 = .ok (.invokevirtual 116, 3) := by decide +kernel
theorem dX5_rest_7 : decode cX5_rest 7 = .ok (.ifCond .eq 7, 3) := by decide +kernel
theorem dX5_rest_10 : decode cX5_rest 10 = .ok (.iconst 1, 1) := by decide +kernel
theorem dX5_rest_11 : decode cX5_rest 11 = .ok (.goto 4, 3) := by decide +kernel
theorem dX5_rest_14 : decode cX5_rest 14 = .ok (.iconst 0, 1) := by decide +kernel
theorem dX5_rest_15 : decode cX5_rest 15 = .ok (.istore_n 1, 1) := by decide +kernel
theorem dX5_rest_16 : decode cX5_rest 16 = .ok (.aload_n 0, 1) := by decide +kernel
theorem dX5_rest_17 : decode cX5_rest 17 = .ok (.getfield 12, 3) := by decide +kernel
theorem dX5_rest_20 : decode cX5_rest 20 = .ok (.invokevirtual 119, 3) := by decide +kernel
theorem dX5_rest_23 : decode cX5_rest 23 = .ok (.iload_n 1, 1) := by decide +kernel
theorem dX5_rest_24 : decode cX5_rest 24 = .ok (.ireturn, 1) := by decide +kernel
theorem dX5_subject_0 : decode cX5_subject 0 = .ok (.iload_n 1, 1) := by decide +kernel
theorem dX5_subject_1 : decode cX5_subject 1 = .ok (.invokestatic 93, 3) := by decide +kernel
theorem dX5_subject_4 : decode cX5_subject 4 = .ok (.ifCond .eq 10, 3) := by decide +kernel
theorem dX5_subject_7 : decode cX5_subject 7 = .ok (.aload_n 0, 1) := by decide +kernel
theorem dX5_subject_8 : decode cX5_subject 8 = .ok (.ldc 55, 2) := by decide +kernel
theorem dX5_subject_10 : decode cX5_subject 10 = .ok (.invokevirtual 56, 3) := by decide +kernel
theorem dX5_subject_13 : decode cX5_subject 13 = .ok (.ireturn, 1) := by decide +kernel
theorem dX5_subject_14 : decode cX5_subject 14 = .ok (.aload_n 0, 1) := by decide +kernel
theorem dX5_subject_15 : decode cX5_subject 15 = .ok (.getfield 12, 3) := by decide +kernel
theorem dX5_subject_18 : decode cX5_subject 18 = .ok (.getfield 122, 3) := by decide +kernel
theorem dX5_subject_21 : decode cX5_subject 21 = .ok (.istore_n 2, 1) := by decide +kernel
theorem dX5_subject_22 : decode cX5_subject 22 = .ok (.aload_n 0, 1) := by decide +kernel
theorem dX5_subject_23 : decode cX5_subject 23 = .ok (.getfield 12, 3) := by decide +kernel
theorem dX5_subject_26 : decode cX5_subject 26 = .ok (.iload_n 1, 1) := by decide +kernel
theorem dX5_subject_27 : decode cX5_subject 27 = .ok (.putfield 122, 3) := by decide +kernel
theorem dX5_subject_30 : decode cX5_subject 30 = .ok (.iload_n 2, 1) := by decide +kernel
theorem dX5_subject_31 : decode cX5_subject 31 = .ok (.ireturn, 1) := by decide +kernel
theorem dX5_go_0 : decode cX5_go 0 = .ok (.iload_n 1, 1) := by decide +kernel
theorem dX5_go_1 : decode cX5_go 1 = .ok (.iconst 1, 1) := by decide +kernel
theorem dX5_go_2 : decode cX5_go 2 = .ok (.bipush 100, 2) := by decide +kernel
theorem dX5_go_4 : decode cX5_go 4 = .ok (.invokestatic 51, 3) := by decide +kernel
theorem dX5_go_7 : decode cX5_go 7 = .ok (.ifCond .eq 10, 3) := by decide +kernel
theorem dX5_go_10 : decode cX5_go 10 = .ok (.aload_n 0, 1) := by decide +kernel
theorem dX5_go_11 : decode cX5_go 11 = .ok (.ldc 55, 2) := by decide +kernel
theorem dX5_go_13 : decode cX5_go 13 = .ok (.invokevirtual 56, 3) := by decide +kernel
theorem dX5_go_16 : decode cX5_go 16 = .ok (.ireturn, 1) := by decide +kernel
theorem dX5_go_17 : decode cX5_go 17 = .ok (.aload_n 0, 1) := by decide +kernel
theorem dX5_go_18 : decode cX5_go 18 = .ok (.getfield 12, 3) := by decide +kernel
theorem dX5_go_21 : decode cX5_go 21 = .ok (.getfield 126, 3) := by decide +kernel
theorem dX5_go_24 : decode cX5_go 24 = .ok (.iload_n 1, 1) := by decide +kernel
theorem dX5_go_25 : decode cX5_go 25 = .ok (.iadd, 1) := by decide +kernel
theorem dX5_go_26 : decode cX5_go 26 = .ok (.ldc 129, 2) := by decide +kernel
theorem dX5_go_28 : decode cX5_go 28 = .ok (.if_icmp .le 10, 3) := by decide +kernel
theorem dX5_go_31 : decode cX5_go 31 = .ok (.aload_n 0, 1) := by decide +kernel
theorem dX5_go_32 : decode cX5_go 32 = .ok (.ldc 130, 2) := by decide +kernel
theorem dX5_go_34 : decode cX5_go 34 = .ok (.invokevirtual 56, 3) := by decide +kernel
theorem dX5_go_37 : decode cX5_go 37 = .ok (.ireturn, 1) := by decide +kernel
theorem dX5_go_38 : decode cX5_go 38 = .ok (.aload_n 0, 1) := by decide +kernel
theorem dX5_go_39 : decode cX5_go 39 = .ok (.getfield 12, 3) := by decide +kernel
theorem dX5_go_42 : decode cX5_go 42 = .ok (.iload_n 1, 1) := by decide +kernel
theorem dX5_go_43 : decode cX5_go 43 = .ok (.invokevirtual 131, 3) := by decide +kernel
theorem dX5_go_46 : decode cX5_go 46 = .ok (.aload_n 0, 1) := by decide +kernel
theorem dX5_go_47 : decode cX5_go 47 = .ok (.getfield 12, 3) := by decide +kernel
theorem dX5_go_50 : decode cX5_go 50 = .ok (.getfield 135, 3) := by decide +kernel
theorem dX5_go_53 : decode cX5_go 53 = .ok (.ireturn, 1) := by decide +kernel
theorem dX5_now_0 : decode cX5_now 0 = .ok (.iload_n 1, 1) := by decide +kernel
theorem dX5_now_1 : decode cX5_now 1 = .ok (.tableswitch 111 0 5 #[39, 47, 55, 63, 95, 103], 39) := by decide +kernel
theorem dX5_now_40 : decode cX5_now 40 = .ok (.aload_n 0, 1) := by decide +kernel
theorem dX5_now_41 : decode cX5_now 41 = .ok (.getfield 12, 3) := by decide +kernel
theorem dX5_now_44 : decode cX5_now 44 = .ok (.getfield 126, 3) := by decide +kernel
theorem dX5_now_47 : decode cX5_now 47 = .ok (.ireturn, 1) := by decide +kernel
theorem dX5_now_48 : decode cX5_now 48 = .ok (.aload_n 0, 1) := by decide +kernel
theorem dX5_now_49 : decode cX5_now 49 = .ok (.getfield 12, 3) := by decide +kernel
theorem dX5_now_52 : decode cX5_now 52 = .ok (.getfield 135, 3) := by decide +kernel
theorem dX5_now_55 : decode cX5_now 55 = .ok (.ireturn, 1) := by decide +kernel
theorem dX5_now_56 : decode cX5_now 56 = .ok (.aload_n 0, 1) := by decide +kernel
theorem dX5_now_57 : decode cX5_now 57 = .ok (.getfield 12, 3) := by decide +kernel
theorem dX5_now_60 : decode cX5_now 60 = .ok (.getfield 122, 3) := by decide +kernel
theorem dX5_now_63 : decode cX5_now 63 = .ok (.ireturn, 1) := by decide +kernel
theorem dX5_now_64 : decode cX5_now 64 = .ok (.aload_n 0, 1) := by decide +kernel
theorem dX5_now_65 : decode cX5_now 65 = .ok (.getfield 12, 3) := by decide +kernel
theorem dX5_now_68 : decode cX5_now 68 = .ok (.invokevirtual 116, 3) := by decide +kernel
theorem dX5_now_71 : decode cX5_now 71 = .ok (.ifCond .eq 23, 3) := by decide +kernel
theorem dX5_now_74 : decode cX5_now 74 = .ok (.aload_n 0, 1) := by decide +kernel
theorem dX5_now_75 : decode cX5_now 75 = .ok (.getfield 12, 3) := by decide +kernel
theorem dX5_now_78 : decode cX5_now 78 = .ok (.getfield 138, 3) := by decide +kernel
theorem dX5_now_81 : decode cX5_now 81 = .ok (.aload_n 0, 1) := by decide +kernel
theorem dX5_now_82 : decode cX5_now 82 = .ok (.getfield 12, 3) := by decide +kernel
theorem dX5_now_85 : decode cX5_now 85 = .ok (.getfield 141, 3) := by decide +kernel
theorem dX5_now_88 : decode cX5_now 88 = .ok (.invokestatic 144, 3) := by decide +kernel
theorem dX5_now_91 : decode cX5_now 91 = .ok (.goto 4, 3) := by decide +kernel
theorem dX5_now_94 : decode cX5_now 94 = .ok (.iconst (-1), 1) := by decide +kernel
theorem dX5_now_95 : decode cX5_now 95 = .ok (.ireturn, 1) := by decide +kernel
theorem dX5_now_96 : decode cX5_now 96 = .ok (.aload_n 0, 1) := by decide +kernel
theorem dX5_now_97 : decode cX5_now 97 = .ok (.getfield 12, 3) := by decide +kernel
theorem dX5_now_100 : decode cX5_now 100 = .ok (.invokevirtual 107, 3) := by decide +kernel
theorem dX5_now_103 : decode cX5_now 103 = .ok (.ireturn, 1) := by decide +kernel
theorem dX5_now_104 : decode cX5_now 104 = .ok (.aload_n 0, 1) := by decide +kernel
theorem dX5_now_105 : decode cX5_now 105 = .ok (.getfield 12, 3) := by decide +kernel
theorem dX5_now_108 : decode cX5_now 108 = .ok (.invokevirtual 147, 3) := by decide +kernel
theorem dX5_now_111 : decode cX5_now 111 = .ok (.ireturn, 1) := by decide +kernel
theorem dX5_now_112 : decode cX5_now 112 = .ok (.aload_n 0, 1) := by decide +kernel
theorem dX5_now_113 : decode cX5_now 113 = .ok (.ldc 55, 2) := by decide +kernel
theorem dX5_now_115 : decode cX5_now 115 = .ok (.invokevirtual 56, 3) := by decide +kernel
theorem dX5_now_118 : decode cX5_now 118 = .ok (.ireturn, 1) := by decide +kernel
theorem dX5_ahead_0 : decode cX5_ahead 0 = .ok (.iload_n 1, 1) := by decide +kernel
theorem dX5_ahead_1 : decode cX5_ahead 1 = .ok (.iconst 0, 1) := by decide +kernel
theorem dX5_ahead_2 : decode cX5_ahead 2 = .ok (.sipush 200, 3) := by decide +kernel
theorem dX5_ahead_5 : decode cX5_ahead 5 = .ok (.invokestatic 51, 3) := by decide +kernel
theorem dX5_ahead_8 : decode cX5_ahead 8 = .ok (.ifCond .eq 10, 3) := by decide +kernel
theorem dX5_ahead_11 : decode cX5_ahead 11 = .ok (.aload_n 0, 1) := by decide +kernel
theorem dX5_ahead_12 : decode cX5_ahead 12 = .ok (.ldc 55, 2) := by decide +kernel
theorem dX5_ahead_14 : decode cX5_ahead 14 = .ok (.invokevirtual 56, 3) := by decide +kernel
theorem dX5_ahead_17 : decode cX5_ahead 17 = .ok (.ireturn, 1) := by decide +kernel
theorem dX5_ahead_18 : decode cX5_ahead 18 = .ok (.aload_n 0, 1) := by decide +kernel
theorem dX5_ahead_19 : decode cX5_ahead 19 = .ok (.getfield 16, 3) := by decide +kernel
theorem dX5_ahead_22 : decode cX5_ahead 22 = .ok (.aload_n 0, 1) := by decide +kernel
theorem dX5_ahead_23 : decode cX5_ahead 23 = .ok (.getfield 12, 3) := by decide +kernel
theorem dX5_ahead_26 : decode cX5_ahead 26 = .ok (.invokevirtual 150, 3) := by decide +kernel
theorem dX5_ahead_29 : decode cX5_ahead 29 = .ok (.aload_n 0, 1) := by decide +kernel
theorem dX5_ahead_30 : decode cX5_ahead 30 = .ok (.getfield 16, 3) := by decide +kernel
theorem dX5_ahead_33 : decode cX5_ahead 33 = .ok (.iload_n 1, 1) := by decide +kernel
theorem dX5_ahead_34 : decode cX5_ahead 34 = .ok (.invokevirtual 131, 3) := by decide +kernel
theorem dX5_ahead_37 : decode cX5_ahead 37 = .ok (.aload_n 0, 1) := by decide +kernel
theorem dX5_ahead_38 : decode cX5_ahead 38 = .ok (.getfield 16, 3) := by decide +kernel
theorem dX5_ahead_41 : decode cX5_ahead 41 = .ok (.getfield 135, 3) := by decide +kernel
theorem dX5_ahead_44 : decode cX5_ahead 44 = .ok (.ireturn, 1) := by decide +kernel
theorem dX5_view_0 : decode cX5_view 0 = .ok (.aload_n 0, 1) := by decide +kernel
theorem dX5_view_1 : decode cX5_view 1 = .ok (.getfield 12, 3) := by decide +kernel
theorem dX5_view_4 : decode cX5_view 4 = .ok (.iload_n 1, 1) := by decide +kernel
theorem dX5_view_5 : decode cX5_view 5 = .ok (.invokevirtual 68, 3) := by decide +kernel
theorem dX5_view_8 : decode cX5_view 8 = .ok (.ifCond .eq 21, 3) := by decide +kernel
theorem dX5_view_11 : decode cX5_view 11 = .ok (.iload_n 2, 1) := by decide +kernel
theorem dX5_view_12 : decode cX5_view 12 = .ok (.invokestatic 93, 3) := by decide +kernel
theorem dX5_view_15 : decode cX5_view 15 = .ok (.ifCond .ne 14, 3) := by decide +kernel
theorem dX5_view_18 : decode cX5_view 18 = .ok (.iload_n 3, 1) := by decide +kernel
theorem dX5_view_19 : decode cX5_view 19 = .ok (.iconst 0, 1) := by decide +kernel
theorem dX5_view_20 : decode cX5_view 20 = .ok (.sipush 200, 3) := by decide +kernel
theorem dX5_view_23 : decode cX5_view 23 = .ok (.invokestatic 51, 3) := by decide +kernel
theorem dX5_view_26 : decode cX5_view 26 = .ok (.ifCond .eq 10, 3) := by decide +kernel
theorem dX5_view_29 : decode cX5_view 29 = .ok (.aload_n 0, 1) := by decide +kernel
theorem dX5_view_30 : decode cX5_view 30 = .ok (.ldc 55, 2) := by decide +kernel
theorem dX5_view_32 : decode cX5_view 32 = .ok (.invokevirtual 56, 3) := by decide +kernel
theorem dX5_view_35 : decode cX5_view 35 = .ok (.ireturn, 1) := by decide +kernel
theorem dX5_view_36 : decode cX5_view 36 = .ok (.aload_n 0, 1) := by decide +kernel
theorem dX5_view_37 : decode cX5_view 37 = .ok (.getfield 16, 3) := by decide +kernel
theorem dX5_view_40 : decode cX5_view 40 = .ok (.aload_n 0, 1) := by decide +kernel
theorem dX5_view_41 : decode cX5_view 41 = .ok (.getfield 12, 3) := by decide +kernel
theorem dX5_view_44 : decode cX5_view 44 = .ok (.invokevirtual 150, 3) := by decide +kernel
theorem dX5_view_47 : decode cX5_view 47 = .ok (.aload_n 0, 1) := by decide +kernel
theorem dX5_view_48 : decode cX5_view 48 = .ok (.getfield 16, 3) := by decide +kernel
theorem dX5_view_51 : decode cX5_view 51 = .ok (.iload_n 3, 1) := by decide +kernel
theorem dX5_view_52 : decode cX5_view 52 = .ok (.invokevirtual 131, 3) := by decide +kernel
theorem dX5_view_55 : decode cX5_view 55 = .ok (.aload_n 0, 1) := by decide +kernel
theorem dX5_view_56 : decode cX5_view 56 = .ok (.getfield 16, 3) := by decide +kernel
theorem dX5_view_59 : decode cX5_view 59 = .ok (.iload_n 1, 1) := by decide +kernel
theorem dX5_view_60 : decode cX5_view 60 = .ok (.iload_n 2, 1) := by decide +kernel
theorem dX5_view_61 : decode cX5_view 61 = .ok (.invokevirtual 154, 3) := by decide +kernel
theorem dX5_view_64 : decode cX5_view 64 = .ok (.ireturn, 1) := by decide +kernel
theorem dX5_dry_0 : decode cX5_dry 0 = .ok (.aload_n 0, 1) := by decide +kernel
theorem dX5_dry_1 : decode cX5_dry 1 = .ok (.getfield 16, 3) := by decide +kernel
theorem dX5_dry_4 : decode cX5_dry 4 = .ok (.aload_n 0, 1) := by decide +kernel
theorem dX5_dry_5 : decode cX5_dry 5 = .ok (.getfield 12, 3) := by decide +kernel
theorem dX5_dry_8 : decode cX5_dry 8 = .ok (.invokevirtual 150, 3) := by decide +kernel
theorem dX5_dry_11 : decode cX5_dry 11 = .ok (.iconst 0, 1) := by decide +kernel
theorem dX5_dry_12 : decode cX5_dry 12 = .ok (.istore_n 1, 1) := by decide +kernel
theorem dX5_dry_13 : decode cX5_dry 13 = .ok (.iload_n 1, 1) := by decide +kernel
theorem dX5_dry_14 : decode cX5_dry 14 = .ok (.sipush 300, 3) := by decide +kernel
theorem dX5_dry_17 : decode cX5_dry 17 = .ok (.if_icmp .gt 29, 3) := by decide +kernel
theorem dX5_dry_20 : decode cX5_dry 20 = .ok (.aload_n 0, 1) := by decide +kernel
theorem dX5_dry_21 : decode cX5_dry 21 = .ok (.getfield 16, 3) := by decide +kernel
theorem dX5_dry_24 : decode cX5_dry 24 = .ok (.invokevirtual 107, 3) := by decide +kernel
theorem dX5_dry_27 : decode cX5_dry 27 = .ok (.ifCond .ne 5, 3) := by decide +kernel
theorem dX5_dry_30 : decode cX5_dry 30 = .ok (.iload_n 1, 1) := by decide +kernel
theorem dX5_dry_31 : decode cX5_dry 31 = .ok (.ireturn, 1) := by decide +kernel
theorem dX5_dry_32 : decode cX5_dry 32 = .ok (.aload_n 0, 1) := by decide +kernel
theorem dX5_dry_33 : decode cX5_dry 33 = .ok (.getfield 16, 3) := by decide +kernel
theorem dX5_dry_36 : decode cX5_dry 36 = .ok (.invokevirtual 157, 3) := by decide +kernel
theorem dX5_dry_39 : decode cX5_dry 39 = .ok (.pop, 1) := by decide +kernel
theorem dX5_dry_40 : decode cX5_dry 40 = .ok (.iinc 1 1, 3) := by decide +kernel
theorem dX5_dry_43 : decode cX5_dry 43 = .ok (.goto (-30), 3) := by decide +kernel
theorem dX5_dry_46 : decode cX5_dry 46 = .ok (.aload_n 0, 1) := by decide +kernel
theorem dX5_dry_47 : decode cX5_dry 47 = .ok (.ldc 160, 2) := by decide +kernel
theorem dX5_dry_49 : decode cX5_dry 49 = .ok (.invokevirtual 56, 3) := by decide +kernel
theorem dX5_dry_52 : decode cX5_dry 52 = .ok (.ireturn, 1) := by decide +kernel
theorem dX5_filled_0 : decode cX5_filled 0 = .ok (.iload_n 1, 1) := by decide +kernel
theorem dX5_filled_1 : decode cX5_filled 1 = .ok (.iconst 0, 1) := by decide +kernel
theorem dX5_filled_2 : decode cX5_filled 2 = .ok (.ldc 161, 2) := by decide +kernel
theorem dX5_filled_4 : decode cX5_filled 4 = .ok (.invokestatic 51, 3) := by decide +kernel
theorem dX5_filled_7 : decode cX5_filled 7 = .ok (.ifCond .eq 10, 3) := by decide +kernel
theorem dX5_filled_10 : decode cX5_filled 10 = .ok (.aload_n 0, 1) := by decide +kernel
theorem dX5_filled_11 : decode cX5_filled 11 = .ok (.ldc 55, 2) := by decide +kernel
theorem dX5_filled_13 : decode cX5_filled 13 = .ok (.invokevirtual 56, 3) := by decide +kernel
theorem dX5_filled_16 : decode cX5_filled 16 = .ok (.ireturn, 1) := by decide +kernel
theorem dX5_filled_17 : decode cX5_filled 17 = .ok (.aload_n 0, 1) := by decide +kernel
theorem dX5_filled_18 : decode cX5_filled 18 = .ok (.getfield 16, 3) := by decide +kernel
theorem dX5_filled_21 : decode cX5_filled 21 = .ok (.aload_n 0, 1) := by decide +kernel
theorem dX5_filled_22 : decode cX5_filled 22 = .ok (.getfield 12, 3) := by decide +kernel
theorem dX5_filled_25 : decode cX5_filled 25 = .ok (.invokevirtual 150, 3) := by decide +kernel
theorem dX5_filled_28 : decode cX5_filled 28 = .ok (.iconst 0, 1) := by decide +kernel
theorem dX5_filled_29 : decode cX5_filled 29 = .ok (.istore_n 2, 1) := by decide +kernel
theorem dX5_filled_30 : decode cX5_filled 30 = .ok (.iload_n 2, 1) := by decide +kernel
theorem dX5_filled_31 : decode cX5_filled 31 = .ok (.sipush 300, 3) := by decide +kernel
theorem dX5_filled_34 : decode cX5_filled 34 = .ok (.if_icmp .gt 30, 3) := by decide +kernel
theorem dX5_filled_37 : decode cX5_filled 37 = .ok (.aload_n 0, 1) := by decide +kernel
theorem dX5_filled_38 : decode cX5_filled 38 = .ok (.getfield 16, 3) := by decide +kernel
theorem dX5_filled_41 : decode cX5_filled 41 = .ok (.getfield 135, 3) := by decide +kernel
theorem dX5_filled_44 : decode cX5_filled 44 = .ok (.iload_n 1, 1) := by decide +kernel
theorem dX5_filled_45 : decode cX5_filled 45 = .ok (.if_icmp .lt 5, 3) := by decide +kernel
theorem dX5_filled_48 : decode cX5_filled 48 = .ok (.iload_n 2, 1) := by decide +kernel
theorem dX5_filled_49 : decode cX5_filled 49 = .ok (.ireturn, 1) := by decide +kernel
theorem dX5_filled_50 : decode cX5_filled 50 = .ok (.aload_n 0, 1) := by decide +kernel
theorem dX5_filled_51 : decode cX5_filled 51 = .ok (.getfield 16, 3) := by decide +kernel
theorem dX5_filled_54 : decode cX5_filled 54 = .ok (.invokevirtual 157, 3) := by decide +kernel
theorem dX5_filled_57 : decode cX5_filled 57 = .ok (.pop, 1) := by decide +kernel
theorem dX5_filled_58 : decode cX5_filled 58 = .ok (.iinc 2 1, 3) := by decide +kernel
theorem dX5_filled_61 : decode cX5_filled 61 = .ok (.goto (-31), 3) := by decide +kernel
theorem dX5_filled_64 : decode cX5_filled 64 = .ok (.aload_n 0, 1) := by decide +kernel
theorem dX5_filled_65 : decode cX5_filled 65 = .ok (.ldc 160, 2) := by decide +kernel
theorem dX5_filled_67 : decode cX5_filled 67 = .ok (.invokevirtual 56, 3) := by decide +kernel
theorem dX5_filled_70 : decode cX5_filled 70 = .ok (.ireturn, 1) := by decide +kernel
theorem dX5_round_0 : decode cX5_round 0 = .ok (.aload_n 0, 1) := by decide +kernel
theorem dX5_round_1 : decode cX5_round 1 = .ok (.getfield 16, 3) := by decide +kernel
theorem dX5_round_4 : decode cX5_round 4 = .ok (.aload_n 0, 1) := by decide +kernel
theorem dX5_round_5 : decode cX5_round 5 = .ok (.getfield 12, 3) := by decide +kernel
theorem dX5_round_8 : decode cX5_round 8 = .ok (.invokevirtual 150, 3) := by decide +kernel
theorem dX5_round_11 : decode cX5_round 11 = .ok (.iconst 1, 1) := by decide +kernel
theorem dX5_round_12 : decode cX5_round 12 = .ok (.istore_n 1, 1) := by decide +kernel
theorem dX5_round_13 : decode cX5_round 13 = .ok (.iload_n 1, 1) := by decide +kernel
theorem dX5_round_14 : decode cX5_round 14 = .ok (.sipush 300, 3) := by decide +kernel
theorem dX5_round_17 : decode cX5_round 17 = .ok (.if_icmp .gt 33, 3) := by decide +kernel
theorem dX5_round_20 : decode cX5_round 20 = .ok (.aload_n 0, 1) := by decide +kernel
theorem dX5_round_21 : decode cX5_round 21 = .ok (.getfield 16, 3) := by decide +kernel
theorem dX5_round_24 : decode cX5_round 24 = .ok (.invokevirtual 157, 3) := by decide +kernel
theorem dX5_round_27 : decode cX5_round 27 = .ok (.pop, 1) := by decide +kernel
theorem dX5_round_28 : decode cX5_round 28 = .ok (.aload_n 0, 1) := by decide +kernel
theorem dX5_round_29 : decode cX5_round 29 = .ok (.getfield 16, 3) := by decide +kernel
theorem dX5_round_32 : decode cX5_round 32 = .ok (.aload_n 0, 1) := by decide +kernel
theorem dX5_round_33 : decode cX5_round 33 = .ok (.getfield 12, 3) := by decide +kernel
theorem dX5_round_36 : decode cX5_round 36 = .ok (.invokevirtual 162, 3) := by decide +kernel
theorem dX5_round_39 : decode cX5_round 39 = .ok (.ifCond .eq 5, 3) := by decide +kernel
theorem dX5_round_42 : decode cX5_round 42 = .ok (.iload_n 1, 1) := by decide +kernel
theorem dX5_round_43 : decode cX5_round 43 = .ok (.ireturn, 1) := by decide +kernel
theorem dX5_round_44 : decode cX5_round 44 = .ok (.iinc 1 1, 3) := by decide +kernel
theorem dX5_round_47 : decode cX5_round 47 = .ok (.goto (-34), 3) := by decide +kernel
theorem dX5_round_50 : decode cX5_round 50 = .ok (.aload_n 0, 1) := by decide +kernel
theorem dX5_round_51 : decode cX5_round 51 = .ok (.ldc 160, 2) := by decide +kernel
theorem dX5_round_53 : decode cX5_round 53 = .ok (.invokevirtual 56, 3) := by decide +kernel
theorem dX5_round_56 : decode cX5_round 56 = .ok (.ireturn, 1) := by decide +kernel
theorem dX5_gives_0 : decode cX5_gives 0 = .ok (.aload_n 0, 1) := by decide +kernel
theorem dX5_gives_1 : decode cX5_gives 1 = .ok (.iload_n 1, 1) := by decide +kernel
theorem dX5_gives_2 : decode cX5_gives 2 = .ok (.iload_n 2, 1) := by decide +kernel
theorem dX5_gives_3 : decode cX5_gives 3 = .ok (.invokevirtual 100, 3) := by decide +kernel
theorem dX5_gives_6 : decode cX5_gives 6 = .ok (.ifCond .ne 13, 3) := by decide +kernel
theorem dX5_gives_9 : decode cX5_gives 9 = .ok (.iload_n 3, 1) := by decide +kernel
theorem dX5_gives_10 : decode cX5_gives 10 = .ok (.iconst 0, 1) := by decide +kernel
theorem dX5_gives_11 : decode cX5_gives 11 = .ok (.bipush 60, 2) := by decide +kernel
theorem dX5_gives_13 : decode cX5_gives 13 = .ok (.invokestatic 51, 3) := by decide +kernel
theorem dX5_gives_16 : decode cX5_gives 16 = .ok (.ifCond .eq 10, 3) := by decide +kernel
theorem dX5_gives_19 : decode cX5_gives 19 = .ok (.aload_n 0, 1) := by decide +kernel
theorem dX5_gives_20 : decode cX5_gives 20 = .ok (.ldc 55, 2) := by decide +kernel
theorem dX5_gives_22 : decode cX5_gives 22 = .ok (.invokevirtual 56, 3) := by decide +kernel
theorem dX5_gives_25 : decode cX5_gives 25 = .ok (.ireturn, 1) := by decide +kernel
theorem dX5_gives_26 : decode cX5_gives 26 = .ok (.aload_n 0, 1) := by decide +kernel
theorem dX5_gives_27 : decode cX5_gives 27 = .ok (.iload_n 1, 1) := by decide +kernel
theorem dX5_gives_28 : decode cX5_gives 28 = .ok (.iload_n 2, 1) := by decide +kernel
theorem dX5_gives_29 : decode cX5_gives 29 = .ok (.iload_n 3, 1) := by decide +kernel
theorem dX5_gives_30 : decode cX5_gives 30 = .ok (.invokevirtual 166, 3) := by decide +kernel
theorem dX5_gives_33 : decode cX5_gives 33 = .ok (.ireturn, 1) := by decide +kernel
theorem dX5_best_0 : decode cX5_best 0 = .ok (.iload_n 1, 1) := by decide +kernel
theorem dX5_best_1 : decode cX5_best 1 = .ok (.iconst 0, 1) := by decide +kernel
theorem dX5_best_2 : decode cX5_best 2 = .ok (.bipush 60, 2) := by decide +kernel
theorem dX5_best_4 : decode cX5_best 4 = .ok (.invokestatic 51, 3) := by decide +kernel
theorem dX5_best_7 : decode cX5_best 7 = .ok (.ifCond .eq 10, 3) := by decide +kernel
theorem dX5_best_10 : decode cX5_best 10 = .ok (.aload_n 0, 1) := by decide +kernel
theorem dX5_best_11 : decode cX5_best 11 = .ok (.ldc 55, 2) := by decide +kernel
theorem dX5_best_13 : decode cX5_best 13 = .ok (.invokevirtual 56, 3) := by decide +kernel
theorem dX5_best_16 : decode cX5_best 16 = .ok (.ireturn, 1) := by decide +kernel
theorem dX5_best_17 : decode cX5_best 17 = .ok (.ldc 160, 2) := by decide +kernel
theorem dX5_best_19 : decode cX5_best 19 = .ok (.istore_n 2, 1) := by decide +kernel
theorem dX5_best_20 : decode cX5_best 20 = .ok (.iconst (-1), 1) := by decide +kernel
theorem dX5_best_21 : decode cX5_best 21 = .ok (.istore_n 3, 1) := by decide +kernel
theorem dX5_best_22 : decode cX5_best 22 = .ok (.iconst 0, 1) := by decide +kernel
theorem dX5_best_23 : decode cX5_best 23 = .ok (.istore 4, 2) := by decide +kernel
theorem dX5_best_25 : decode cX5_best 25 = .ok (.iload 4, 2) := by decide +kernel
theorem dX5_best_27 : decode cX5_best 27 = .ok (.aload_n 0, 1) := by decide +kernel
theorem dX5_best_28 : decode cX5_best 28 = .ok (.getfield 12, 3) := by decide +kernel
theorem dX5_best_31 : decode cX5_best 31 = .ok (.getfield 169, 3) := by decide +kernel
theorem dX5_best_34 : decode cX5_best 34 = .ok (.if_icmp .ge 61, 3) := by decide +kernel
theorem dX5_best_37 : decode cX5_best 37 = .ok (.iload 4, 2) := by decide +kernel
theorem dX5_best_39 : decode cX5_best 39 = .ok (.iconst 1, 1) := by decide +kernel
theorem dX5_best_40 : decode cX5_best 40 = .ok (.iadd, 1) := by decide +kernel
theorem dX5_best_41 : decode cX5_best 41 = .ok (.istore 5, 2) := by decide +kernel
theorem dX5_best_43 : decode cX5_best 43 = .ok (.iload 5, 2) := by decide +kernel
theorem dX5_best_45 : decode cX5_best 45 = .ok (.aload_n 0, 1) := by decide +kernel
theorem dX5_best_46 : decode cX5_best 46 = .ok (.getfield 12, 3) := by decide +kernel
theorem dX5_best_49 : decode cX5_best 49 = .ok (.getfield 169, 3) := by decide +kernel
theorem dX5_best_52 : decode cX5_best 52 = .ok (.if_icmp .ge 37, 3) := by decide +kernel
theorem dX5_best_55 : decode cX5_best 55 = .ok (.aload_n 0, 1) := by decide +kernel
theorem dX5_best_56 : decode cX5_best 56 = .ok (.iload 4, 2) := by decide +kernel
theorem dX5_best_58 : decode cX5_best 58 = .ok (.iload 5, 2) := by decide +kernel
theorem dX5_best_60 : decode cX5_best 60 = .ok (.iload_n 1, 1) := by decide +kernel
theorem dX5_best_61 : decode cX5_best 61 = .ok (.invokevirtual 166, 3) := by decide +kernel
theorem dX5_best_64 : decode cX5_best 64 = .ok (.istore 6, 2) := by decide +kernel
theorem dX5_best_66 : decode cX5_best 66 = .ok (.iload 6, 2) := by decide +kernel
theorem dX5_best_68 : decode cX5_best 68 = .ok (.iload_n 3, 1) := by decide +kernel
theorem dX5_best_69 : decode cX5_best 69 = .ok (.if_icmp .le 14, 3) := by decide +kernel
theorem dX5_best_72 : decode cX5_best 72 = .ok (.iload 6, 2) := by decide +kernel
theorem dX5_best_74 : decode cX5_best 74 = .ok (.istore_n 3, 1) := by decide +kernel
theorem dX5_best_75 : decode cX5_best 75 = .ok (.iload 4, 2) := by decide +kernel
theorem dX5_best_77 : decode cX5_best 77 = .ok (.iload 5, 2) := by decide +kernel
theorem dX5_best_79 : decode cX5_best 79 = .ok (.invokestatic 144, 3) := by decide +kernel
theorem dX5_best_82 : decode cX5_best 82 = .ok (.istore_n 2, 1) := by decide +kernel
theorem dX5_best_83 : decode cX5_best 83 = .ok (.iinc 5 1, 3) := by decide +kernel
theorem dX5_best_86 : decode cX5_best 86 = .ok (.goto (-43), 3) := by decide +kernel
theorem dX5_best_89 : decode cX5_best 89 = .ok (.iinc 4 1, 3) := by decide +kernel
theorem dX5_best_92 : decode cX5_best 92 = .ok (.goto (-67), 3) := by decide +kernel
theorem dX5_best_95 : decode cX5_best 95 = .ok (.iload_n 2, 1) := by decide +kernel
theorem dX5_best_96 : decode cX5_best 96 = .ok (.ldc 160, 2) := by decide +kernel
theorem dX5_best_98 : decode cX5_best 98 = .ok (.if_icmp .ne 12, 3) := by decide +kernel
theorem dX5_best_101 : decode cX5_best 101 = .ok (.aload_n 0, 1) := by decide +kernel
theorem dX5_best_102 : decode cX5_best 102 = .ok (.ldc 160, 2) := by decide +kernel
theorem dX5_best_104 : decode cX5_best 104 = .ok (.invokevirtual 56, 3) := by decide +kernel
theorem dX5_best_107 : decode cX5_best 107 = .ok (.goto 4, 3) := by decide +kernel
theorem dX5_best_110 : decode cX5_best 110 = .ok (.iload_n 2, 1) := by decide +kernel
theorem dX5_best_111 : decode cX5_best 111 = .ok (.ireturn, 1) := by decide +kernel
theorem dX5_partner_0 : decode cX5_partner 0 = .ok (.aload_n 0, 1) := by decide +kernel
theorem dX5_partner_1 : decode cX5_partner 1 = .ok (.getfield 12, 3) := by decide +kernel
theorem dX5_partner_4 : decode cX5_partner 4 = .ok (.iload_n 1, 1) := by decide +kernel
theorem dX5_partner_5 : decode cX5_partner 5 = .ok (.invokevirtual 68, 3) := by decide +kernel
theorem dX5_partner_8 : decode cX5_partner 8 = .ok (.ifCond .eq 13, 3) := by decide +kernel
theorem dX5_partner_11 : decode cX5_partner 11 = .ok (.iload_n 2, 1) := by decide +kernel
theorem dX5_partner_12 : decode cX5_partner 12 = .ok (.iconst 0, 1) := by decide +kernel
theorem dX5_partner_13 : decode cX5_partner 13 = .ok (.bipush 60, 2) := by decide +kernel
theorem dX5_partner_15 : decode cX5_partner 15 = .ok (.invokestatic 51, 3) := by decide +kernel
theorem dX5_partner_18 : decode cX5_partner 18 = .ok (.ifCond .eq 10, 3) := by decide +kernel
theorem dX5_partner_21 : decode cX5_partner 21 = .ok (.aload_n 0, 1) := by decide +kernel
theorem dX5_partner_22 : decode cX5_partner 22 = .ok (.ldc 55, 2) := by decide +kernel
theorem dX5_partner_24 : decode cX5_partner 24 = .ok (.invokevirtual 56, 3) := by decide +kernel
theorem dX5_partner_27 : decode cX5_partner 27 = .ok (.ireturn, 1) := by decide +kernel
theorem dX5_partner_28 : decode cX5_partner 28 = .ok (.ldc 160, 2) := by decide +kernel
theorem dX5_partner_30 : decode cX5_partner 30 = .ok (.istore_n 3, 1) := by decide +kernel
theorem dX5_partner_31 : decode cX5_partner 31 = .ok (.iconst (-1), 1) := by decide +kernel
theorem dX5_partner_32 : decode cX5_partner 32 = .ok (.istore 4, 2) := by decide +kernel
theorem dX5_partner_34 : decode cX5_partner 34 = .ok (.iconst 0, 1) := by decide +kernel
theorem dX5_partner_35 : decode cX5_partner 35 = .ok (.istore 5, 2) := by decide +kernel
theorem dX5_partner_37 : decode cX5_partner 37 = .ok (.iload 5, 2) := by decide +kernel
theorem dX5_partner_39 : decode cX5_partner 39 = .ok (.aload_n 0, 1) := by decide +kernel
theorem dX5_partner_40 : decode cX5_partner 40 = .ok (.getfield 12, 3) := by decide +kernel
theorem dX5_partner_43 : decode cX5_partner 43 = .ok (.getfield 169, 3) := by decide +kernel
theorem dX5_partner_46 : decode cX5_partner 46 = .ok (.if_icmp .ge 43, 3) := by decide +kernel
theorem dX5_partner_49 : decode cX5_partner 49 = .ok (.iload 5, 2) := by decide +kernel
theorem dX5_partner_51 : decode cX5_partner 51 = .ok (.iload_n 1, 1) := by decide +kernel
theorem dX5_partner_52 : decode cX5_partner 52 = .ok (.if_icmp .ne 7, 3) := by decide +kernel
theorem dX5_partner_55 : decode cX5_partner 55 = .ok (.iconst (-1), 1) := by decide +kernel
theorem dX5_partner_56 : decode cX5_partner 56 = .ok (.goto 11, 3) := by decide +kernel
theorem dX5_partner_59 : decode cX5_partner 59 = .ok (.aload_n 0, 1) := by decide +kernel
theorem dX5_partner_60 : decode cX5_partner 60 = .ok (.iload_n 1, 1) := by decide +kernel
theorem dX5_partner_61 : decode cX5_partner 61 = .ok (.iload 5, 2) := by decide +kernel
theorem dX5_partner_63 : decode cX5_partner 63 = .ok (.iload_n 2, 1) := by decide +kernel
theorem dX5_partner_64 : decode cX5_partner 64 = .ok (.invokevirtual 166, 3) := by decide +kernel
theorem dX5_partner_67 : decode cX5_partner 67 = .ok (.istore 6, 2) := by decide +kernel
theorem dX5_partner_69 : decode cX5_partner 69 = .ok (.iload 6, 2) := by decide +kernel
theorem dX5_partner_71 : decode cX5_partner 71 = .ok (.iload 4, 2) := by decide +kernel
theorem dX5_partner_73 : decode cX5_partner 73 = .ok (.if_icmp .le 10, 3) := by decide +kernel
theorem dX5_partner_76 : decode cX5_partner 76 = .ok (.iload 6, 2) := by decide +kernel
theorem dX5_partner_78 : decode cX5_partner 78 = .ok (.istore 4, 2) := by decide +kernel
theorem dX5_partner_80 : decode cX5_partner 80 = .ok (.iload 5, 2) := by decide +kernel
theorem dX5_partner_82 : decode cX5_partner 82 = .ok (.istore_n 3, 1) := by decide +kernel
theorem dX5_partner_83 : decode cX5_partner 83 = .ok (.iinc 5 1, 3) := by decide +kernel
theorem dX5_partner_86 : decode cX5_partner 86 = .ok (.goto (-49), 3) := by decide +kernel
theorem dX5_partner_89 : decode cX5_partner 89 = .ok (.iload_n 3, 1) := by decide +kernel
theorem dX5_partner_90 : decode cX5_partner 90 = .ok (.ldc 160, 2) := by decide +kernel
theorem dX5_partner_92 : decode cX5_partner 92 = .ok (.if_icmp .ne 12, 3) := by decide +kernel
theorem dX5_partner_95 : decode cX5_partner 95 = .ok (.aload_n 0, 1) := by decide +kernel
theorem dX5_partner_96 : decode cX5_partner 96 = .ok (.ldc 160, 2) := by decide +kernel
theorem dX5_partner_98 : decode cX5_partner 98 = .ok (.invokevirtual 56, 3) := by decide +kernel
theorem dX5_partner_101 : decode cX5_partner 101 = .ok (.goto 4, 3) := by decide +kernel
theorem dX5_partner_104 : decode cX5_partner 104 = .ok (.iload_n 3, 1) := by decide +kernel
theorem dX5_partner_105 : decode cX5_partner 105 = .ok (.ireturn, 1) := by decide +kernel
theorem dX5_subjectFor_0 : decode cX5_subjectFor 0 = .ok (.aload_n 0, 1) := by decide +kernel
theorem dX5_subjectFor_1 : decode cX5_subjectFor 1 = .ok (.iload_n 1, 1) := by decide +kernel
theorem dX5_subjectFor_2 : decode cX5_subjectFor 2 = .ok (.iload_n 2, 1) := by decide +kernel
theorem dX5_subjectFor_3 : decode cX5_subjectFor 3 = .ok (.invokevirtual 100, 3) := by decide +kernel
theorem dX5_subjectFor_6 : decode cX5_subjectFor 6 = .ok (.ifCond .ne 13, 3) := by decide +kernel
theorem dX5_subjectFor_9 : decode cX5_subjectFor 9 = .ok (.iload_n 3, 1) := by decide +kernel
theorem dX5_subjectFor_10 : decode cX5_subjectFor 10 = .ok (.iconst 0, 1) := by decide +kernel
theorem dX5_subjectFor_11 : decode cX5_subjectFor 11 = .ok (.bipush 60, 2) := by decide +kernel
theorem dX5_subjectFor_13 : decode cX5_subjectFor 13 = .ok (.invokestatic 51, 3) := by decide +kernel
theorem dX5_subjectFor_16 : decode cX5_subjectFor 16 = .ok (.ifCond .eq 10, 3) := by decide +kernel
theorem dX5_subjectFor_19 : decode cX5_subjectFor 19 = .ok (.aload_n 0, 1) := by decide +kernel
theorem dX5_subjectFor_20 : decode cX5_subjectFor 20 = .ok (.ldc 55, 2) := by decide +kernel
theorem dX5_subjectFor_22 : decode cX5_subjectFor 22 = .ok (.invokevirtual 56, 3) := by decide +kernel
theorem dX5_subjectFor_25 : decode cX5_subjectFor 25 = .ok (.ireturn, 1) := by decide +kernel
theorem dX5_subjectFor_26 : decode cX5_subjectFor 26 = .ok (.iconst 0, 1) := by decide +kernel
theorem dX5_subjectFor_27 : decode cX5_subjectFor 27 = .ok (.istore 4, 2) := by decide +kernel
theorem dX5_subjectFor_29 : decode cX5_subjectFor 29 = .ok (.iconst (-1), 1) := by decide +kernel
theorem dX5_subjectFor_30 : decode cX5_subjectFor 30 = .ok (.istore 5, 2) := by decide +kernel
theorem dX5_subjectFor_32 : decode cX5_subjectFor 32 = .ok (.iconst 0, 1) := by decide +kernel
theorem dX5_subjectFor_33 : decode cX5_subjectFor 33 = .ok (.istore 6, 2) := by decide +kernel
theorem dX5_subjectFor_35 : decode cX5_subjectFor 35 = .ok (.iload 6, 2) := by decide +kernel
theorem dX5_subjectFor_37 : decode cX5_subjectFor 37 = .ok (.bipush 6, 2) := by decide +kernel
theorem dX5_subjectFor_39 : decode cX5_subjectFor 39 = .ok (.if_icmp .ge 56, 3) := by decide +kernel
theorem dX5_subjectFor_42 : decode cX5_subjectFor 42 = .ok (.aload_n 0, 1) := by decide +kernel
theorem dX5_subjectFor_43 : decode cX5_subjectFor 43 = .ok (.getfield 16, 3) := by decide +kernel
theorem dX5_subjectFor_46 : decode cX5_subjectFor 46 = .ok (.aload_n 0, 1) := by decide +kernel
theorem dX5_subjectFor_47 : decode cX5_subjectFor 47 = .ok (.getfield 12, 3) := by decide +kernel
theorem dX5_subjectFor_50 : decode cX5_subjectFor 50 = .ok (.invokevirtual 150, 3) := by decide +kernel
theorem dX5_subjectFor_53 : decode cX5_subjectFor 53 = .ok (.aload_n 0, 1) := by decide +kernel
theorem dX5_subjectFor_54 : decode cX5_subjectFor 54 = .ok (.getfield 16, 3) := by decide +kernel
theorem dX5_subjectFor_57 : decode cX5_subjectFor 57 = .ok (.iload 6, 2) := by decide +kernel
theorem dX5_subjectFor_59 : decode cX5_subjectFor 59 = .ok (.putfield 122, 3) := by decide +kernel
theorem dX5_subjectFor_62 : decode cX5_subjectFor 62 = .ok (.aload_n 0, 1) := by decide +kernel
theorem dX5_subjectFor_63 : decode cX5_subjectFor 63 = .ok (.getfield 16, 3) := by decide +kernel
theorem dX5_subjectFor_66 : decode cX5_subjectFor 66 = .ok (.iload_n 1, 1) := by decide +kernel
theorem dX5_subjectFor_67 : decode cX5_subjectFor 67 = .ok (.iload_n 2, 1) := by decide +kernel
theorem dX5_subjectFor_68 : decode cX5_subjectFor 68 = .ok (.iload_n 3, 1) := by decide +kernel
theorem dX5_subjectFor_69 : decode cX5_subjectFor 69 = .ok (.invokevirtual 172, 3) := by decide +kernel
theorem dX5_subjectFor_72 : decode cX5_subjectFor 72 = .ok (.istore 7, 2) := by decide +kernel
theorem dX5_subjectFor_74 : decode cX5_subjectFor 74 = .ok (.iload 7, 2) := by decide +kernel
theorem dX5_subjectFor_76 : decode cX5_subjectFor 76 = .ok (.iload 5, 2) := by decide +kernel
theorem dX5_subjectFor_78 : decode cX5_subjectFor 78 = .ok (.if_icmp .le 11, 3) := by decide +kernel
theorem dX5_subjectFor_81 : decode cX5_subjectFor 81 = .ok (.iload 7, 2) := by decide +kernel
theorem dX5_subjectFor_83 : decode cX5_subjectFor 83 = .ok (.istore 5, 2) := by decide +kernel
theorem dX5_subjectFor_85 : decode cX5_subjectFor 85 = .ok (.iload 6, 2) := by decide +kernel
theorem dX5_subjectFor_87 : decode cX5_subjectFor 87 = .ok (.istore 4, 2) := by decide +kernel
theorem dX5_subjectFor_89 : decode cX5_subjectFor 89 = .ok (.iinc 6 1, 3) := by decide +kernel
theorem dX5_subjectFor_92 : decode cX5_subjectFor 92 = .ok (.goto (-57), 3) := by decide +kernel
theorem dX5_subjectFor_95 : decode cX5_subjectFor 95 = .ok (.iload 4, 2) := by decide +kernel
theorem dX5_subjectFor_97 : decode cX5_subjectFor 97 = .ok (.ireturn, 1) := by decide +kernel
theorem dX5_matched_0 : decode cX5_matched 0 = .ok (.iload_n 1, 1) := by decide +kernel
theorem dX5_matched_1 : decode cX5_matched 1 = .ok (.iconst 0, 1) := by decide +kernel
theorem dX5_matched_2 : decode cX5_matched 2 = .ok (.bipush 30, 2) := by decide +kernel
theorem dX5_matched_4 : decode cX5_matched 4 = .ok (.invokestatic 51, 3) := by decide +kernel
theorem dX5_matched_7 : decode cX5_matched 7 = .ok (.ifCond .eq 10, 3) := by decide +kernel
theorem dX5_matched_10 : decode cX5_matched 10 = .ok (.aload_n 0, 1) := by decide +kernel
theorem dX5_matched_11 : decode cX5_matched 11 = .ok (.ldc 55, 2) := by decide +kernel
theorem dX5_matched_13 : decode cX5_matched 13 = .ok (.invokevirtual 56, 3) := by decide +kernel
theorem dX5_matched_16 : decode cX5_matched 16 = .ok (.ireturn, 1) := by decide +kernel
theorem dX5_matched_17 : decode cX5_matched 17 = .ok (.aload_n 0, 1) := by decide +kernel
theorem dX5_matched_18 : decode cX5_matched 18 = .ok (.iload_n 1, 1) := by decide +kernel
theorem dX5_matched_19 : decode cX5_matched 19 = .ok (.invokevirtual 175, 3) := by decide +kernel
theorem dX5_matched_22 : decode cX5_matched 22 = .ok (.aload_n 0, 1) := by decide +kernel
theorem dX5_matched_23 : decode cX5_matched 23 = .ok (.getfield 36, 3) := by decide +kernel
theorem dX5_matched_26 : decode cX5_matched 26 = .ok (.aload_n 0, 1) := by decide +kernel
theorem dX5_matched_27 : decode cX5_matched 27 = .ok (.getfield 12, 3) := by decide +kernel
theorem dX5_matched_30 : decode cX5_matched 30 = .ok (.getfield 169, 3) := by decide +kernel
theorem dX5_matched_33 : decode cX5_matched 33 = .ok (.invokevirtual 178, 3) := by decide +kernel
theorem dX5_matched_36 : decode cX5_matched 36 = .ok (.ireturn, 1) := by decide +kernel
theorem dX5_matchOf_0 : decode cX5_matchOf 0 = .ok (.aload_n 0, 1) := by decide +kernel
theorem dX5_matchOf_1 : decode cX5_matchOf 1 = .ok (.getfield 12, 3) := by decide +kernel
theorem dX5_matchOf_4 : decode cX5_matchOf 4 = .ok (.iload_n 1, 1) := by decide +kernel
theorem dX5_matchOf_5 : decode cX5_matchOf 5 = .ok (.invokevirtual 68, 3) := by decide +kernel
theorem dX5_matchOf_8 : decode cX5_matchOf 8 = .ok (.ifCond .eq 13, 3) := by decide +kernel
theorem dX5_matchOf_11 : decode cX5_matchOf 11 = .ok (.iload_n 2, 1) := by decide +kernel
theorem dX5_matchOf_12 : decode cX5_matchOf 12 = .ok (.iconst 0, 1) := by decide +kernel
theorem dX5_matchOf_13 : decode cX5_matchOf 13 = .ok (.bipush 30, 2) := by decide +kernel
theorem dX5_matchOf_15 : decode cX5_matchOf 15 = .ok (.invokestatic 51, 3) := by decide +kernel
theorem dX5_matchOf_18 : decode cX5_matchOf 18 = .ok (.ifCond .eq 10, 3) := by decide +kernel
theorem dX5_matchOf_21 : decode cX5_matchOf 21 = .ok (.aload_n 0, 1) := by decide +kernel
theorem dX5_matchOf_22 : decode cX5_matchOf 22 = .ok (.ldc 55, 2) := by decide +kernel
theorem dX5_matchOf_24 : decode cX5_matchOf 24 = .ok (.invokevirtual 56, 3) := by decide +kernel
theorem dX5_matchOf_27 : decode cX5_matchOf 27 = .ok (.ireturn, 1) := by decide +kernel
theorem dX5_matchOf_28 : decode cX5_matchOf 28 = .ok (.aload_n 0, 1) := by decide +kernel
theorem dX5_matchOf_29 : decode cX5_matchOf 29 = .ok (.iload_n 2, 1) := by decide +kernel
theorem dX5_matchOf_30 : decode cX5_matchOf 30 = .ok (.invokevirtual 175, 3) := by decide +kernel
theorem dX5_matchOf_33 : decode cX5_matchOf 33 = .ok (.aload_n 0, 1) := by decide +kernel
theorem dX5_matchOf_34 : decode cX5_matchOf 34 = .ok (.getfield 36, 3) := by decide +kernel
theorem dX5_matchOf_37 : decode cX5_matchOf 37 = .ok (.iload_n 1, 1) := by decide +kernel
theorem dX5_matchOf_38 : decode cX5_matchOf 38 = .ok (.aload_n 0, 1) := by decide +kernel
theorem dX5_matchOf_39 : decode cX5_matchOf 39 = .ok (.getfield 12, 3) := by decide +kernel
theorem dX5_matchOf_42 : decode cX5_matchOf 42 = .ok (.getfield 169, 3) := by decide +kernel
theorem dX5_matchOf_45 : decode cX5_matchOf 45 = .ok (.invokevirtual 181, 3) := by decide +kernel
theorem dX5_matchOf_48 : decode cX5_matchOf 48 = .ok (.ireturn, 1) := by decide +kernel
theorem dX5_kindFor_0 : decode cX5_kindFor 0 = .ok (.aload_n 0, 1) := by decide +kernel
theorem dX5_kindFor_1 : decode cX5_kindFor 1 = .ok (.iload_n 1, 1) := by decide +kernel
theorem dX5_kindFor_2 : decode cX5_kindFor 2 = .ok (.iload_n 2, 1) := by decide +kernel
theorem dX5_kindFor_3 : decode cX5_kindFor 3 = .ok (.invokevirtual 100, 3) := by decide +kernel
theorem dX5_kindFor_6 : decode cX5_kindFor 6 = .ok (.ifCond .ne 13, 3) := by decide +kernel
theorem dX5_kindFor_9 : decode cX5_kindFor 9 = .ok (.iload_n 3, 1) := by decide +kernel
theorem dX5_kindFor_10 : decode cX5_kindFor 10 = .ok (.iconst 0, 1) := by decide +kernel
theorem dX5_kindFor_11 : decode cX5_kindFor 11 = .ok (.bipush 60, 2) := by decide +kernel
theorem dX5_kindFor_13 : decode cX5_kindFor 13 = .ok (.invokestatic 51, 3) := by decide +kernel
theorem dX5_kindFor_16 : decode cX5_kindFor 16 = .ok (.ifCond .eq 10, 3) := by decide +kernel
theorem dX5_kindFor_19 : decode cX5_kindFor 19 = .ok (.aload_n 0, 1) := by decide +kernel
theorem dX5_kindFor_20 : decode cX5_kindFor 20 = .ok (.ldc 55, 2) := by decide +kernel
theorem dX5_kindFor_22 : decode cX5_kindFor 22 = .ok (.invokevirtual 56, 3) := by decide +kernel
theorem dX5_kindFor_25 : decode cX5_kindFor 25 = .ok (.ireturn, 1) := by decide +kernel
theorem dX5_kindFor_26 : decode cX5_kindFor 26 = .ok (.aload_n 0, 1) := by decide +kernel
theorem dX5_kindFor_27 : decode cX5_kindFor 27 = .ok (.iload_n 1, 1) := by decide +kernel
theorem dX5_kindFor_28 : decode cX5_kindFor 28 = .ok (.iload_n 2, 1) := by decide +kernel
theorem dX5_kindFor_29 : decode cX5_kindFor 29 = .ok (.iconst 0, 1) := by decide +kernel
theorem dX5_kindFor_30 : decode cX5_kindFor 30 = .ok (.iload_n 3, 1) := by decide +kernel
theorem dX5_kindFor_31 : decode cX5_kindFor 31 = .ok (.invokevirtual 184, 3) := by decide +kernel
theorem dX5_kindFor_34 : decode cX5_kindFor 34 = .ok (.ireturn, 1) := by decide +kernel
theorem dX5_viewFor_0 : decode cX5_viewFor 0 = .ok (.aload_n 0, 1) := by decide +kernel
theorem dX5_viewFor_1 : decode cX5_viewFor 1 = .ok (.iload_n 1, 1) := by decide +kernel
theorem dX5_viewFor_2 : decode cX5_viewFor 2 = .ok (.iload_n 2, 1) := by decide +kernel
theorem dX5_viewFor_3 : decode cX5_viewFor 3 = .ok (.invokevirtual 100, 3) := by decide +kernel
theorem dX5_viewFor_6 : decode cX5_viewFor 6 = .ok (.ifCond .ne 21, 3) := by decide +kernel
theorem dX5_viewFor_9 : decode cX5_viewFor 9 = .ok (.iload_n 3, 1) := by decide +kernel
theorem dX5_viewFor_10 : decode cX5_viewFor 10 = .ok (.invokestatic 93, 3) := by decide +kernel
theorem dX5_viewFor_13 : decode cX5_viewFor 13 = .ok (.ifCond .ne 14, 3) := by decide +kernel
theorem dX5_viewFor_16 : decode cX5_viewFor 16 = .ok (.iload 4, 2) := by decide +kernel
theorem dX5_viewFor_18 : decode cX5_viewFor 18 = .ok (.iconst 0, 1) := by decide +kernel
theorem dX5_viewFor_19 : decode cX5_viewFor 19 = .ok (.bipush 60, 2) := by decide +kernel
theorem dX5_viewFor_21 : decode cX5_viewFor 21 = .ok (.invokestatic 51, 3) := by decide +kernel
theorem dX5_viewFor_24 : decode cX5_viewFor 24 = .ok (.ifCond .eq 10, 3) := by decide +kernel
theorem dX5_viewFor_27 : decode cX5_viewFor 27 = .ok (.aload_n 0, 1) := by decide +kernel
theorem dX5_viewFor_28 : decode cX5_viewFor 28 = .ok (.ldc 55, 2) := by decide +kernel
theorem dX5_viewFor_30 : decode cX5_viewFor 30 = .ok (.invokevirtual 56, 3) := by decide +kernel
theorem dX5_viewFor_33 : decode cX5_viewFor 33 = .ok (.ireturn, 1) := by decide +kernel
theorem dX5_viewFor_34 : decode cX5_viewFor 34 = .ok (.aload_n 0, 1) := by decide +kernel
theorem dX5_viewFor_35 : decode cX5_viewFor 35 = .ok (.iload_n 1, 1) := by decide +kernel
theorem dX5_viewFor_36 : decode cX5_viewFor 36 = .ok (.iload_n 2, 1) := by decide +kernel
theorem dX5_viewFor_37 : decode cX5_viewFor 37 = .ok (.iconst 2, 1) := by decide +kernel
theorem dX5_viewFor_38 : decode cX5_viewFor 38 = .ok (.iload_n 3, 1) := by decide +kernel
theorem dX5_viewFor_39 : decode cX5_viewFor 39 = .ok (.iadd, 1) := by decide +kernel
theorem dX5_viewFor_40 : decode cX5_viewFor 40 = .ok (.iload 4, 2) := by decide +kernel
theorem dX5_viewFor_42 : decode cX5_viewFor 42 = .ok (.invokevirtual 184, 3) := by decide +kernel
theorem dX5_viewFor_45 : decode cX5_viewFor 45 = .ok (.ireturn, 1) := by decide +kernel
theorem dX5_voiceFor_0 : decode cX5_voiceFor 0 = .ok (.aload_n 0, 1) := by decide +kernel
theorem dX5_voiceFor_1 : decode cX5_voiceFor 1 = .ok (.iload_n 1, 1) := by decide +kernel
theorem dX5_voiceFor_2 : decode cX5_voiceFor 2 = .ok (.iload_n 2, 1) := by decide +kernel
theorem dX5_voiceFor_3 : decode cX5_voiceFor 3 = .ok (.invokevirtual 100, 3) := by decide +kernel
theorem dX5_voiceFor_6 : decode cX5_voiceFor 6 = .ok (.ifCond .ne 25, 3) := by decide +kernel
theorem dX5_voiceFor_9 : decode cX5_voiceFor 9 = .ok (.iload_n 3, 1) := by decide +kernel
theorem dX5_voiceFor_10 : decode cX5_voiceFor 10 = .ok (.iconst 0, 1) := by decide +kernel
theorem dX5_voiceFor_11 : decode cX5_voiceFor 11 = .ok (.sipush 9999, 3) := by decide +kernel
theorem dX5_voiceFor_14 : decode cX5_voiceFor 14 = .ok (.invokestatic 51, 3) := by decide +kernel
theorem dX5_voiceFor_17 : decode cX5_voiceFor 17 = .ok (.ifCond .ne 14, 3) := by decide +kernel
theorem dX5_voiceFor_20 : decode cX5_voiceFor 20 = .ok (.iload 4, 2) := by decide +kernel
theorem dX5_voiceFor_22 : decode cX5_voiceFor 22 = .ok (.iconst 0, 1) := by decide +kernel
theorem dX5_voiceFor_23 : decode cX5_voiceFor 23 = .ok (.bipush 60, 2) := by decide +kernel
theorem dX5_voiceFor_25 : decode cX5_voiceFor 25 = .ok (.invokestatic 51, 3) := by decide +kernel
theorem dX5_voiceFor_28 : decode cX5_voiceFor 28 = .ok (.ifCond .eq 10, 3) := by decide +kernel
theorem dX5_voiceFor_31 : decode cX5_voiceFor 31 = .ok (.aload_n 0, 1) := by decide +kernel
theorem dX5_voiceFor_32 : decode cX5_voiceFor 32 = .ok (.ldc 55, 2) := by decide +kernel
theorem dX5_voiceFor_34 : decode cX5_voiceFor 34 = .ok (.invokevirtual 56, 3) := by decide +kernel
theorem dX5_voiceFor_37 : decode cX5_voiceFor 37 = .ok (.ireturn, 1) := by decide +kernel
theorem dX5_voiceFor_38 : decode cX5_voiceFor 38 = .ok (.iconst 0, 1) := by decide +kernel
theorem dX5_voiceFor_39 : decode cX5_voiceFor 39 = .ok (.istore 5, 2) := by decide +kernel
theorem dX5_voiceFor_41 : decode cX5_voiceFor 41 = .ok (.iload 5, 2) := by decide +kernel
theorem dX5_voiceFor_43 : decode cX5_voiceFor 43 = .ok (.bipush 9, 2) := by decide +kernel
theorem dX5_voiceFor_45 : decode cX5_voiceFor 45 = .ok (.if_icmp .gt 27, 3) := by decide +kernel
theorem dX5_voiceFor_48 : decode cX5_voiceFor 48 = .ok (.aload_n 0, 1) := by decide +kernel
theorem dX5_voiceFor_49 : decode cX5_voiceFor 49 = .ok (.iload_n 1, 1) := by decide +kernel
theorem dX5_voiceFor_50 : decode cX5_voiceFor 50 = .ok (.iload_n 2, 1) := by decide +kernel
theorem dX5_voiceFor_51 : decode cX5_voiceFor 51 = .ok (.iconst 1, 1) := by decide +kernel
theorem dX5_voiceFor_52 : decode cX5_voiceFor 52 = .ok (.iload 5, 2) := by decide +kernel
theorem dX5_voiceFor_54 : decode cX5_voiceFor 54 = .ok (.iload 4, 2) := by decide +kernel
theorem dX5_voiceFor_56 : decode cX5_voiceFor 56 = .ok (.invokevirtual 188, 3) := by decide +kernel
theorem dX5_voiceFor_59 : decode cX5_voiceFor 59 = .ok (.iload_n 3, 1) := by decide +kernel
theorem dX5_voiceFor_60 : decode cX5_voiceFor 60 = .ok (.if_icmp .lt 6, 3) := by decide +kernel
theorem dX5_voiceFor_63 : decode cX5_voiceFor 63 = .ok (.iload 5, 2) := by decide +kernel
theorem dX5_voiceFor_65 : decode cX5_voiceFor 65 = .ok (.ireturn, 1) := by decide +kernel
theorem dX5_voiceFor_66 : decode cX5_voiceFor 66 = .ok (.iinc 5 1, 3) := by decide +kernel
theorem dX5_voiceFor_69 : decode cX5_voiceFor 69 = .ok (.goto (-28), 3) := by decide +kernel
theorem dX5_voiceFor_72 : decode cX5_voiceFor 72 = .ok (.aload_n 0, 1) := by decide +kernel
theorem dX5_voiceFor_73 : decode cX5_voiceFor 73 = .ok (.ldc 160, 2) := by decide +kernel
theorem dX5_voiceFor_75 : decode cX5_voiceFor 75 = .ok (.invokevirtual 56, 3) := by decide +kernel
theorem dX5_voiceFor_78 : decode cX5_voiceFor 78 = .ok (.ireturn, 1) := by decide +kernel
theorem dX5_fits_0 : decode cX5_fits 0 = .ok (.aload_n 0, 1) := by decide +kernel
theorem dX5_fits_1 : decode cX5_fits 1 = .ok (.iload_n 1, 1) := by decide +kernel
theorem dX5_fits_2 : decode cX5_fits 2 = .ok (.iload_n 2, 1) := by decide +kernel
theorem dX5_fits_3 : decode cX5_fits 3 = .ok (.invokevirtual 192, 3) := by decide +kernel
theorem dX5_fits_6 : decode cX5_fits 6 = .ok (.istore_n 3, 1) := by decide +kernel
theorem dX5_fits_7 : decode cX5_fits 7 = .ok (.iload_n 3, 1) := by decide +kernel
theorem dX5_fits_8 : decode cX5_fits 8 = .ok (.ifCond .eq 9, 3) := by decide +kernel
theorem dX5_fits_11 : decode cX5_fits 11 = .ok (.aload_n 0, 1) := by decide +kernel
theorem dX5_fits_12 : decode cX5_fits 12 = .ok (.iload_n 3, 1) := by decide +kernel
theorem dX5_fits_13 : decode cX5_fits 13 = .ok (.invokevirtual 56, 3) := by decide +kernel
theorem dX5_fits_16 : decode cX5_fits 16 = .ok (.ireturn, 1) := by decide +kernel
theorem dX5_fits_17 : decode cX5_fits 17 = .ok (.iconst 0, 1) := by decide +kernel
theorem dX5_fits_18 : decode cX5_fits 18 = .ok (.istore 4, 2) := by decide +kernel
theorem dX5_fits_20 : decode cX5_fits 20 = .ok (.bipush (-9), 2) := by decide +kernel
theorem dX5_fits_22 : decode cX5_fits 22 = .ok (.istore 5, 2) := by decide +kernel
theorem dX5_fits_24 : decode cX5_fits 24 = .ok (.iload 5, 2) := by decide +kernel
theorem dX5_fits_26 : decode cX5_fits 26 = .ok (.bipush 9, 2) := by decide +kernel
theorem dX5_fits_28 : decode cX5_fits 28 = .ok (.if_icmp .gt 37, 3) := by decide +kernel
theorem dX5_fits_31 : decode cX5_fits 31 = .ok (.aload_n 0, 1) := by decide +kernel
theorem dX5_fits_32 : decode cX5_fits 32 = .ok (.aload_n 0, 1) := by decide +kernel
theorem dX5_fits_33 : decode cX5_fits 33 = .ok (.getfield 42, 3) := by decide +kernel
theorem dX5_fits_36 : decode cX5_fits 36 = .ok (.iload_n 1, 1) := by decide +kernel
theorem dX5_fits_37 : decode cX5_fits 37 = .ok (.aaload, 1) := by decide +kernel
theorem dX5_fits_38 : decode cX5_fits 38 = .ok (.iload_n 2, 1) := by decide +kernel
theorem dX5_fits_39 : decode cX5_fits 39 = .ok (.iconst 2, 1) := by decide +kernel
theorem dX5_fits_40 : decode cX5_fits 40 = .ok (.aload_n 0, 1) := by decide +kernel
theorem dX5_fits_41 : decode cX5_fits 41 = .ok (.getfield 12, 3) := by decide +kernel
theorem dX5_fits_44 : decode cX5_fits 44 = .ok (.getfield 122, 3) := by decide +kernel
theorem dX5_fits_47 : decode cX5_fits 47 = .ok (.iadd, 1) := by decide +kernel
theorem dX5_fits_48 : decode cX5_fits 48 = .ok (.iload 5, 2) := by decide +kernel
theorem dX5_fits_50 : decode cX5_fits 50 = .ok (.invokevirtual 195, 3) := by decide +kernel
theorem dX5_fits_53 : decode cX5_fits 53 = .ok (.ifCond .eq 6, 3) := by decide +kernel
theorem dX5_fits_56 : decode cX5_fits 56 = .ok (.iinc 4 1, 3) := by decide +kernel
theorem dX5_fits_59 : decode cX5_fits 59 = .ok (.iinc 5 1, 3) := by decide +kernel
theorem dX5_fits_62 : decode cX5_fits 62 = .ok (.goto (-38), 3) := by decide +kernel
theorem dX5_fits_65 : decode cX5_fits 65 = .ok (.iload 4, 2) := by decide +kernel
theorem dX5_fits_67 : decode cX5_fits 67 = .ok (.ireturn, 1) := by decide +kernel
theorem dX5_thought_0 : decode cX5_thought 0 = .ok (.aload_n 0, 1) := by decide +kernel
theorem dX5_thought_1 : decode cX5_thought 1 = .ok (.iload_n 1, 1) := by decide +kernel
theorem dX5_thought_2 : decode cX5_thought 2 = .ok (.iload_n 2, 1) := by decide +kernel
theorem dX5_thought_3 : decode cX5_thought 3 = .ok (.invokevirtual 192, 3) := by decide +kernel
theorem dX5_thought_6 : decode cX5_thought 6 = .ok (.istore_n 3, 1) := by decide +kernel
theorem dX5_thought_7 : decode cX5_thought 7 = .ok (.iload_n 3, 1) := by decide +kernel
theorem dX5_thought_8 : decode cX5_thought 8 = .ok (.ifCond .eq 9, 3) := by decide +kernel
theorem dX5_thought_11 : decode cX5_thought 11 = .ok (.aload_n 0, 1) := by decide +kernel
theorem dX5_thought_12 : decode cX5_thought 12 = .ok (.iload_n 3, 1) := by decide +kernel
theorem dX5_thought_13 : decode cX5_thought 13 = .ok (.invokevirtual 56, 3) := by decide +kernel
theorem dX5_thought_16 : decode cX5_thought 16 = .ok (.ireturn, 1) := by decide +kernel
theorem dX5_thought_17 : decode cX5_thought 17 = .ok (.bipush (-9), 2) := by decide +kernel
theorem dX5_thought_19 : decode cX5_thought 19 = .ok (.istore 4, 2) := by decide +kernel
theorem dX5_thought_21 : decode cX5_thought 21 = .ok (.iload 4, 2) := by decide +kernel
theorem dX5_thought_23 : decode cX5_thought 23 = .ok (.bipush 9, 2) := by decide +kernel
theorem dX5_thought_25 : decode cX5_thought 25 = .ok (.if_icmp .gt 37, 3) := by decide +kernel
theorem dX5_thought_28 : decode cX5_thought 28 = .ok (.aload_n 0, 1) := by decide +kernel
theorem dX5_thought_29 : decode cX5_thought 29 = .ok (.aload_n 0, 1) := by decide +kernel
theorem dX5_thought_30 : decode cX5_thought 30 = .ok (.getfield 42, 3) := by decide +kernel
theorem dX5_thought_33 : decode cX5_thought 33 = .ok (.iload_n 1, 1) := by decide +kernel
theorem dX5_thought_34 : decode cX5_thought 34 = .ok (.aaload, 1) := by decide +kernel
theorem dX5_thought_35 : decode cX5_thought 35 = .ok (.iload_n 2, 1) := by decide +kernel
theorem dX5_thought_36 : decode cX5_thought 36 = .ok (.iconst 2, 1) := by decide +kernel
theorem dX5_thought_37 : decode cX5_thought 37 = .ok (.aload_n 0, 1) := by decide +kernel
theorem dX5_thought_38 : decode cX5_thought 38 = .ok (.getfield 12, 3) := by decide +kernel
theorem dX5_thought_41 : decode cX5_thought 41 = .ok (.getfield 122, 3) := by decide +kernel
theorem dX5_thought_44 : decode cX5_thought 44 = .ok (.iadd, 1) := by decide +kernel
theorem dX5_thought_45 : decode cX5_thought 45 = .ok (.iload 4, 2) := by decide +kernel
theorem dX5_thought_47 : decode cX5_thought 47 = .ok (.invokevirtual 195, 3) := by decide +kernel
theorem dX5_thought_50 : decode cX5_thought 50 = .ok (.ifCond .eq 6, 3) := by decide +kernel
theorem dX5_thought_53 : decode cX5_thought 53 = .ok (.iload 4, 2) := by decide +kernel
theorem dX5_thought_55 : decode cX5_thought 55 = .ok (.ireturn, 1) := by decide +kernel
theorem dX5_thought_56 : decode cX5_thought 56 = .ok (.iinc 4 1, 3) := by decide +kernel
theorem dX5_thought_59 : decode cX5_thought 59 = .ok (.goto (-38), 3) := by decide +kernel
theorem dX5_thought_62 : decode cX5_thought 62 = .ok (.aload_n 0, 1) := by decide +kernel
theorem dX5_thought_63 : decode cX5_thought 63 = .ok (.ldc 160, 2) := by decide +kernel
theorem dX5_thought_65 : decode cX5_thought 65 = .ok (.invokevirtual 56, 3) := by decide +kernel
theorem dX5_thought_68 : decode cX5_thought 68 = .ok (.ireturn, 1) := by decide +kernel
theorem dX5_kinds_0 : decode cX5_kinds 0 = .ok (.aload_n 0, 1) := by decide +kernel
theorem dX5_kinds_1 : decode cX5_kinds 1 = .ok (.iload_n 1, 1) := by decide +kernel
theorem dX5_kinds_2 : decode cX5_kinds 2 = .ok (.iload_n 2, 1) := by decide +kernel
theorem dX5_kinds_3 : decode cX5_kinds 3 = .ok (.invokevirtual 192, 3) := by decide +kernel
theorem dX5_kinds_6 : decode cX5_kinds 6 = .ok (.istore_n 3, 1) := by decide +kernel
theorem dX5_kinds_7 : decode cX5_kinds 7 = .ok (.iload_n 3, 1) := by decide +kernel
theorem dX5_kinds_8 : decode cX5_kinds 8 = .ok (.ifCond .eq 9, 3) := by decide +kernel
theorem dX5_kinds_11 : decode cX5_kinds 11 = .ok (.aload_n 0, 1) := by decide +kernel
theorem dX5_kinds_12 : decode cX5_kinds 12 = .ok (.iload_n 3, 1) := by decide +kernel
theorem dX5_kinds_13 : decode cX5_kinds 13 = .ok (.invokevirtual 56, 3) := by decide +kernel
theorem dX5_kinds_16 : decode cX5_kinds 16 = .ok (.ireturn, 1) := by decide +kernel
theorem dX5_kinds_17 : decode cX5_kinds 17 = .ok (.iconst 0, 1) := by decide +kernel
theorem dX5_kinds_18 : decode cX5_kinds 18 = .ok (.istore 4, 2) := by decide +kernel
theorem dX5_kinds_20 : decode cX5_kinds 20 = .ok (.iconst 0, 1) := by decide +kernel
theorem dX5_kinds_21 : decode cX5_kinds 21 = .ok (.istore 5, 2) := by decide +kernel
theorem dX5_kinds_23 : decode cX5_kinds 23 = .ok (.iload 5, 2) := by decide +kernel
theorem dX5_kinds_25 : decode cX5_kinds 25 = .ok (.bipush 7, 2) := by decide +kernel
theorem dX5_kinds_27 : decode cX5_kinds 27 = .ok (.if_icmp .ge 35, 3) := by decide +kernel
theorem dX5_kinds_30 : decode cX5_kinds 30 = .ok (.aload_n 0, 1) := by decide +kernel
theorem dX5_kinds_31 : decode cX5_kinds 31 = .ok (.aload_n 0, 1) := by decide +kernel
theorem dX5_kinds_32 : decode cX5_kinds 32 = .ok (.getfield 42, 3) := by decide +kernel
theorem dX5_kinds_35 : decode cX5_kinds 35 = .ok (.iload_n 1, 1) := by decide +kernel
theorem dX5_kinds_36 : decode cX5_kinds 36 = .ok (.aaload, 1) := by decide +kernel
theorem dX5_kinds_37 : decode cX5_kinds 37 = .ok (.iload_n 2, 1) := by decide +kernel
theorem dX5_kinds_38 : decode cX5_kinds 38 = .ok (.iconst 0, 1) := by decide +kernel
theorem dX5_kinds_39 : decode cX5_kinds 39 = .ok (.iload 5, 2) := by decide +kernel
theorem dX5_kinds_41 : decode cX5_kinds 41 = .ok (.invokevirtual 195, 3) := by decide +kernel
theorem dX5_kinds_44 : decode cX5_kinds 44 = .ok (.ifCond .eq 12, 3) := by decide +kernel
theorem dX5_kinds_47 : decode cX5_kinds 47 = .ok (.iload 4, 2) := by decide +kernel
theorem dX5_kinds_49 : decode cX5_kinds 49 = .ok (.iconst 1, 1) := by decide +kernel
theorem dX5_kinds_50 : decode cX5_kinds 50 = .ok (.iload 5, 2) := by decide +kernel
theorem dX5_kinds_52 : decode cX5_kinds 52 = .ok (.ishl, 1) := by decide +kernel
theorem dX5_kinds_53 : decode cX5_kinds 53 = .ok (.ior, 1) := by decide +kernel
theorem dX5_kinds_54 : decode cX5_kinds 54 = .ok (.istore 4, 2) := by decide +kernel
theorem dX5_kinds_56 : decode cX5_kinds 56 = .ok (.iinc 5 1, 3) := by decide +kernel
theorem dX5_kinds_59 : decode cX5_kinds 59 = .ok (.goto (-36), 3) := by decide +kernel
theorem dX5_kinds_62 : decode cX5_kinds 62 = .ok (.iload 4, 2) := by decide +kernel
theorem dX5_kinds_64 : decode cX5_kinds 64 = .ok (.ireturn, 1) := by decide +kernel
theorem dX5_quarrels_0 : decode cX5_quarrels 0 = .ok (.iload_n 1, 1) := by decide +kernel
theorem dX5_quarrels_1 : decode cX5_quarrels 1 = .ok (.iconst 1, 1) := by decide +kernel
theorem dX5_quarrels_2 : decode cX5_quarrels 2 = .ok (.bipush 20, 2) := by decide +kernel
theorem dX5_quarrels_4 : decode cX5_quarrels 4 = .ok (.invokestatic 51, 3) := by decide +kernel
theorem dX5_quarrels_7 : decode cX5_quarrels 7 = .ok (.ifCond .eq 10, 3) := by decide +kernel
theorem dX5_quarrels_10 : decode cX5_quarrels 10 = .ok (.aload_n 0, 1) := by decide +kernel
theorem dX5_quarrels_11 : decode cX5_quarrels 11 = .ok (.ldc 55, 2) := by decide +kernel
theorem dX5_quarrels_13 : decode cX5_quarrels 13 = .ok (.invokevirtual 56, 3) := by decide +kernel
theorem dX5_quarrels_16 : decode cX5_quarrels 16 = .ok (.ireturn, 1) := by decide +kernel
theorem dX5_quarrels_17 : decode cX5_quarrels 17 = .ok (.aload_n 0, 1) := by decide +kernel
theorem dX5_quarrels_18 : decode cX5_quarrels 18 = .ok (.getfield 12, 3) := by decide +kernel
theorem dX5_quarrels_21 : decode cX5_quarrels 21 = .ok (.getfield 126, 3) := by decide +kernel
theorem dX5_quarrels_24 : decode cX5_quarrels 24 = .ok (.iload_n 1, 1) := by decide +kernel
theorem dX5_quarrels_25 : decode cX5_quarrels 25 = .ok (.iadd, 1) := by decide +kernel
theorem dX5_quarrels_26 : decode cX5_quarrels 26 = .ok (.ldc 129, 2) := by decide +kernel
theorem dX5_quarrels_28 : decode cX5_quarrels 28 = .ok (.if_icmp .le 10, 3) := by decide +kernel
theorem dX5_quarrels_31 : decode cX5_quarrels 31 = .ok (.aload_n 0, 1) := by decide +kernel
theorem dX5_quarrels_32 : decode cX5_quarrels 32 = .ok (.ldc 130, 2) := by decide +kernel
theorem dX5_quarrels_34 : decode cX5_quarrels 34 = .ok (.invokevirtual 56, 3) := by decide +kernel
theorem dX5_quarrels_37 : decode cX5_quarrels 37 = .ok (.ireturn, 1) := by decide +kernel
theorem dX5_quarrels_38 : decode cX5_quarrels 38 = .ok (.iconst 0, 1) := by decide +kernel
theorem dX5_quarrels_39 : decode cX5_quarrels 39 = .ok (.istore_n 2, 1) := by decide +kernel
theorem dX5_quarrels_40 : decode cX5_quarrels 40 = .ok (.iload_n 2, 1) := by decide +kernel
theorem dX5_quarrels_41 : decode cX5_quarrels 41 = .ok (.iload_n 1, 1) := by decide +kernel
theorem dX5_quarrels_42 : decode cX5_quarrels 42 = .ok (.if_icmp .ge 60, 3) := by decide +kernel
theorem dX5_quarrels_45 : decode cX5_quarrels 45 = .ok (.aload_n 0, 1) := by decide +kernel
theorem dX5_quarrels_46 : decode cX5_quarrels 46 = .ok (.getfield 12, 3) := by decide +kernel
theorem dX5_quarrels_49 : decode cX5_quarrels 49 = .ok (.invokevirtual 199, 3) := by decide +kernel
theorem dX5_quarrels_52 : decode cX5_quarrels 52 = .ok (.bipush 8, 2) := by decide +kernel
theorem dX5_quarrels_54 : decode cX5_quarrels 54 = .ok (.irem, 1) := by decide +kernel
theorem dX5_quarrels_55 : decode cX5_quarrels 55 = .ok (.istore_n 3, 1) := by decide +kernel
theorem dX5_quarrels_56 : decode cX5_quarrels 56 = .ok (.aload_n 0, 1) := by decide +kernel
theorem dX5_quarrels_57 : decode cX5_quarrels 57 = .ok (.getfield 12, 3) := by decide +kernel
theorem dX5_quarrels_60 : decode cX5_quarrels 60 = .ok (.invokevirtual 199, 3) := by decide +kernel
theorem dX5_quarrels_63 : decode cX5_quarrels 63 = .ok (.bipush 8, 2) := by decide +kernel
theorem dX5_quarrels_65 : decode cX5_quarrels 65 = .ok (.irem, 1) := by decide +kernel
theorem dX5_quarrels_66 : decode cX5_quarrels 66 = .ok (.istore 4, 2) := by decide +kernel
theorem dX5_quarrels_68 : decode cX5_quarrels 68 = .ok (.aload_n 0, 1) := by decide +kernel
theorem dX5_quarrels_69 : decode cX5_quarrels 69 = .ok (.iload_n 3, 1) := by decide +kernel
theorem dX5_quarrels_70 : decode cX5_quarrels 70 = .ok (.iload 4, 2) := by decide +kernel
theorem dX5_quarrels_72 : decode cX5_quarrels 72 = .ok (.invokevirtual 100, 3) := by decide +kernel
theorem dX5_quarrels_75 : decode cX5_quarrels 75 = .ok (.ifCond .ne 13, 3) := by decide +kernel
theorem dX5_quarrels_78 : decode cX5_quarrels 78 = .ok (.aload_n 0, 1) := by decide +kernel
theorem dX5_quarrels_79 : decode cX5_quarrels 79 = .ok (.getfield 12, 3) := by decide +kernel
theorem dX5_quarrels_82 : decode cX5_quarrels 82 = .ok (.iload_n 3, 1) := by decide +kernel
theorem dX5_quarrels_83 : decode cX5_quarrels 83 = .ok (.iload 4, 2) := by decide +kernel
theorem dX5_quarrels_85 : decode cX5_quarrels 85 = .ok (.invokevirtual 103, 3) := by decide +kernel
theorem dX5_quarrels_88 : decode cX5_quarrels 88 = .ok (.aload_n 0, 1) := by decide +kernel
theorem dX5_quarrels_89 : decode cX5_quarrels 89 = .ok (.getfield 12, 3) := by decide +kernel
theorem dX5_quarrels_92 : decode cX5_quarrels 92 = .ok (.invokevirtual 157, 3) := by decide +kernel
theorem dX5_quarrels_95 : decode cX5_quarrels 95 = .ok (.pop, 1) := by decide +kernel
theorem dX5_quarrels_96 : decode cX5_quarrels 96 = .ok (.iinc 2 1, 3) := by decide +kernel
theorem dX5_quarrels_99 : decode cX5_quarrels 99 = .ok (.goto (-59), 3) := by decide +kernel
theorem dX5_quarrels_102 : decode cX5_quarrels 102 = .ok (.aload_n 0, 1) := by decide +kernel
theorem dX5_quarrels_103 : decode cX5_quarrels 103 = .ok (.getfield 12, 3) := by decide +kernel
theorem dX5_quarrels_106 : decode cX5_quarrels 106 = .ok (.getfield 135, 3) := by decide +kernel
theorem dX5_quarrels_109 : decode cX5_quarrels 109 = .ok (.ireturn, 1) := by decide +kernel
theorem dX5_odds_0 : decode cX5_odds 0 = .ok (.iload_n 1, 1) := by decide +kernel
theorem dX5_odds_1 : decode cX5_odds 1 = .ok (.iconst 0, 1) := by decide +kernel
theorem dX5_odds_2 : decode cX5_odds 2 = .ok (.bipush 10, 2) := by decide +kernel
theorem dX5_odds_4 : decode cX5_odds 4 = .ok (.invokestatic 51, 3) := by decide +kernel
theorem dX5_odds_7 : decode cX5_odds 7 = .ok (.ifCond .ne 12, 3) := by decide +kernel
theorem dX5_odds_10 : decode cX5_odds 10 = .ok (.iload_n 2, 1) := by decide +kernel
theorem dX5_odds_11 : decode cX5_odds 11 = .ok (.iconst 0, 1) := by decide +kernel
theorem dX5_odds_12 : decode cX5_odds 12 = .ok (.iconst 1, 1) := by decide +kernel
theorem dX5_odds_13 : decode cX5_odds 13 = .ok (.invokestatic 51, 3) := by decide +kernel
theorem dX5_odds_16 : decode cX5_odds 16 = .ok (.ifCond .eq 11, 3) := by decide +kernel
theorem dX5_odds_19 : decode cX5_odds 19 = .ok (.aload_n 0, 1) := by decide +kernel
theorem dX5_odds_20 : decode cX5_odds 20 = .ok (.ldc 55, 2) := by decide +kernel
theorem dX5_odds_22 : decode cX5_odds 22 = .ok (.invokevirtual 56, 3) := by decide +kernel
theorem dX5_odds_25 : decode cX5_odds 25 = .ok (.i2l, 1) := by decide +kernel
theorem dX5_odds_26 : decode cX5_odds 26 = .ok (.lreturn, 1) := by decide +kernel
theorem dX5_odds_27 : decode cX5_odds 27 = .ok (.aload_n 0, 1) := by decide +kernel
theorem dX5_odds_28 : decode cX5_odds 28 = .ok (.getfield 12, 3) := by decide +kernel
theorem dX5_odds_31 : decode cX5_odds 31 = .ok (.getfield 169, 3) := by decide +kernel
theorem dX5_odds_34 : decode cX5_odds 34 = .ok (.i2l, 1) := by decide +kernel
theorem dX5_odds_35 : decode cX5_odds 35 = .ok (.aload_n 0, 1) := by decide +kernel
theorem dX5_odds_36 : decode cX5_odds 36 = .ok (.getfield 12, 3) := by decide +kernel
theorem dX5_odds_39 : decode cX5_odds 39 = .ok (.getfield 169, 3) := by decide +kernel
theorem dX5_odds_42 : decode cX5_odds 42 = .ok (.iconst 1, 1) := by decide +kernel
theorem dX5_odds_43 : decode cX5_odds 43 = .ok (.isub, 1) := by decide +kernel
theorem dX5_odds_44 : decode cX5_odds 44 = .ok (.i2l, 1) := by decide +kernel
theorem dX5_odds_45 : decode cX5_odds 45 = .ok (.lmul, 1) := by decide +kernel
theorem dX5_odds_46 : decode cX5_odds 46 = .ok (.lstore_n 3, 1) := by decide +kernel
theorem dX5_odds_47 : decode cX5_odds 47 = .ok (.ldc2_w 202, 3) := by decide +kernel
theorem dX5_odds_50 : decode cX5_odds 50 = .ok (.lstore 5, 2) := by decide +kernel
theorem dX5_odds_52 : decode cX5_odds 52 = .ok (.lload 5, 2) := by decide +kernel
theorem dX5_odds_54 : decode cX5_odds 54 = .ok (.lconst 1, 1) := by decide +kernel
theorem dX5_odds_55 : decode cX5_odds 55 = .ok (.lcmp, 1) := by decide +kernel
theorem dX5_odds_56 : decode cX5_odds 56 = .ok (.ifCond .le 30, 3) := by decide +kernel
theorem dX5_odds_59 : decode cX5_odds 59 = .ok (.lload_n 3, 1) := by decide +kernel
theorem dX5_odds_60 : decode cX5_odds 60 = .ok (.ldc2_w 204, 3) := by decide +kernel
theorem dX5_odds_63 : decode cX5_odds 63 = .ok (.lrem, 1) := by decide +kernel
theorem dX5_odds_64 : decode cX5_odds 64 = .ok (.lconst 0, 1) := by decide +kernel
theorem dX5_odds_65 : decode cX5_odds 65 = .ok (.lcmp, 1) := by decide +kernel
theorem dX5_odds_66 : decode cX5_odds 66 = .ok (.ifCond .ne 20, 3) := by decide +kernel
theorem dX5_odds_69 : decode cX5_odds 69 = .ok (.lload_n 3, 1) := by decide +kernel
theorem dX5_odds_70 : decode cX5_odds 70 = .ok (.ldc2_w 204, 3) := by decide +kernel
theorem dX5_odds_73 : decode cX5_odds 73 = .ok (.ldiv, 1) := by decide +kernel
theorem dX5_odds_74 : decode cX5_odds 74 = .ok (.lstore_n 3, 1) := by decide +kernel
theorem dX5_odds_75 : decode cX5_odds 75 = .ok (.lload 5, 2) := by decide +kernel
theorem dX5_odds_77 : decode cX5_odds 77 = .ok (.ldc2_w 204, 3) := by decide +kernel
theorem dX5_odds_80 : decode cX5_odds 80 = .ok (.ldiv, 1) := by decide +kernel
theorem dX5_odds_81 : decode cX5_odds 81 = .ok (.lstore 5, 2) := by decide +kernel
theorem dX5_odds_83 : decode cX5_odds 83 = .ok (.goto (-31), 3) := by decide +kernel
theorem dX5_odds_86 : decode cX5_odds 86 = .ok (.iload_n 2, 1) := by decide +kernel
theorem dX5_odds_87 : decode cX5_odds 87 = .ok (.ifCond .ne 7, 3) := by decide +kernel
theorem dX5_odds_90 : decode cX5_odds 90 = .ok (.lload_n 3, 1) := by decide +kernel
theorem dX5_odds_91 : decode cX5_odds 91 = .ok (.goto 5, 3) := by decide +kernel
theorem dX5_odds_94 : decode cX5_odds 94 = .ok (.lload 5, 2) := by decide +kernel
theorem dX5_odds_96 : decode cX5_odds 96 = .ok (.iload_n 1, 1) := by decide +kernel
theorem dX5_odds_97 : decode cX5_odds 97 = .ok (.invokestatic 206, 3) := by decide +kernel
theorem dX5_odds_100 : decode cX5_odds 100 = .ok (.lreturn, 1) := by decide +kernel
theorem dX5_seed_0 : decode cX5_seed 0 = .ok (.aload_n 0, 1) := by decide +kernel
theorem dX5_seed_1 : decode cX5_seed 1 = .ok (.getfield 12, 3) := by decide +kernel
theorem dX5_seed_4 : decode cX5_seed 4 = .ok (.getfield 210, 3) := by decide +kernel
theorem dX5_seed_7 : decode cX5_seed 7 = .ok (.istore_n 2, 1) := by decide +kernel
theorem dX5_seed_8 : decode cX5_seed 8 = .ok (.aload_n 0, 1) := by decide +kernel
theorem dX5_seed_9 : decode cX5_seed 9 = .ok (.getfield 12, 3) := by decide +kernel
theorem dX5_seed_12 : decode cX5_seed 12 = .ok (.iload_n 1, 1) := by decide +kernel
theorem dX5_seed_13 : decode cX5_seed 13 = .ok (.putfield 210, 3) := by decide +kernel
theorem dX5_seed_16 : decode cX5_seed 16 = .ok (.iload_n 2, 1) := by decide +kernel
theorem dX5_seed_17 : decode cX5_seed 17 = .ok (.ireturn, 1) := by decide +kernel
theorem dX5_feed_0 : decode cX5_feed 0 = .ok (.iload_n 2, 1) := by decide +kernel
theorem dX5_feed_1 : decode cX5_feed 1 = .ok (.iconst 1, 1) := by decide +kernel
theorem dX5_feed_2 : decode cX5_feed 2 = .ok (.iconst 4, 1) := by decide +kernel
theorem dX5_feed_3 : decode cX5_feed 3 = .ok (.invokestatic 51, 3) := by decide +kernel
theorem dX5_feed_6 : decode cX5_feed 6 = .ok (.ifCond .eq 10, 3) := by decide +kernel
theorem dX5_feed_9 : decode cX5_feed 9 = .ok (.aload_n 0, 1) := by decide +kernel
theorem dX5_feed_10 : decode cX5_feed 10 = .ok (.ldc 55, 2) := by decide +kernel
theorem dX5_feed_12 : decode cX5_feed 12 = .ok (.invokevirtual 56, 3) := by decide +kernel
theorem dX5_feed_15 : decode cX5_feed 15 = .ok (.ireturn, 1) := by decide +kernel
theorem dX5_feed_16 : decode cX5_feed 16 = .ok (.aload_n 0, 1) := by decide +kernel
theorem dX5_feed_17 : decode cX5_feed 17 = .ok (.getfield 29, 3) := by decide +kernel
theorem dX5_feed_20 : decode cX5_feed 20 = .ok (.getfield 213, 3) := by decide +kernel
theorem dX5_feed_23 : decode cX5_feed 23 = .ok (.iload_n 2, 1) := by decide +kernel
theorem dX5_feed_24 : decode cX5_feed 24 = .ok (.iadd, 1) := by decide +kernel
theorem dX5_feed_25 : decode cX5_feed 25 = .ok (.bipush 120, 2) := by decide +kernel
theorem dX5_feed_27 : decode cX5_feed 27 = .ok (.if_icmp .le 10, 3) := by decide +kernel
theorem dX5_feed_30 : decode cX5_feed 30 = .ok (.aload_n 0, 1) := by decide +kernel
theorem dX5_feed_31 : decode cX5_feed 31 = .ok (.ldc 64, 2) := by decide +kernel
theorem dX5_feed_33 : decode cX5_feed 33 = .ok (.invokevirtual 56, 3) := by decide +kernel
theorem dX5_feed_36 : decode cX5_feed 36 = .ok (.ireturn, 1) := by decide +kernel
theorem dX5_feed_37 : decode cX5_feed 37 = .ok (.iload_n 2, 1) := by decide +kernel
theorem dX5_feed_38 : decode cX5_feed 38 = .ok (.iconst 1, 1) := by decide +kernel
theorem dX5_feed_39 : decode cX5_feed 39 = .ok (.isub, 1) := by decide +kernel
theorem dX5_feed_40 : decode cX5_feed 40 = .ok (.istore_n 3, 1) := by decide +kernel
theorem dX5_feed_41 : decode cX5_feed 41 = .ok (.iload_n 3, 1) := by decide +kernel
theorem dX5_feed_42 : decode cX5_feed 42 = .ok (.ifCond .lt 26, 3) := by decide +kernel
theorem dX5_feed_45 : decode cX5_feed 45 = .ok (.aload_n 0, 1) := by decide +kernel
theorem dX5_feed_46 : decode cX5_feed 46 = .ok (.getfield 29, 3) := by decide +kernel
theorem dX5_feed_49 : decode cX5_feed 49 = .ok (.iload_n 1, 1) := by decide +kernel
theorem dX5_feed_50 : decode cX5_feed 50 = .ok (.bipush 8, 2) := by decide +kernel
theorem dX5_feed_52 : decode cX5_feed 52 = .ok (.iload_n 3, 1) := by decide +kernel
theorem dX5_feed_53 : decode cX5_feed 53 = .ok (.imul, 1) := by decide +kernel
theorem dX5_feed_54 : decode cX5_feed 54 = .ok (.iushr, 1) := by decide +kernel
theorem dX5_feed_55 : decode cX5_feed 55 = .ok (.sipush 255, 3) := by decide +kernel
theorem dX5_feed_58 : decode cX5_feed 58 = .ok (.iand, 1) := by decide +kernel
theorem dX5_feed_59 : decode cX5_feed 59 = .ok (.invokevirtual 216, 3) := by decide +kernel
theorem dX5_feed_62 : decode cX5_feed 62 = .ok (.iinc 3 (-1), 3) := by decide +kernel
theorem dX5_feed_65 : decode cX5_feed 65 = .ok (.goto (-24), 3) := by decide +kernel
theorem dX5_feed_68 : decode cX5_feed 68 = .ok (.aload_n 0, 1) := by decide +kernel
theorem dX5_feed_69 : decode cX5_feed 69 = .ok (.getfield 29, 3) := by decide +kernel
theorem dX5_feed_72 : decode cX5_feed 72 = .ok (.getfield 213, 3) := by decide +kernel
theorem dX5_feed_75 : decode cX5_feed 75 = .ok (.ireturn, 1) := by decide +kernel
theorem dX5_wipe_0 : decode cX5_wipe 0 = .ok (.aload_n 0, 1) := by decide +kernel
theorem dX5_wipe_1 : decode cX5_wipe 1 = .ok (.getfield 29, 3) := by decide +kernel
theorem dX5_wipe_4 : decode cX5_wipe 4 = .ok (.getfield 213, 3) := by decide +kernel
theorem dX5_wipe_7 : decode cX5_wipe 7 = .ok (.istore_n 1, 1) := by decide +kernel
theorem dX5_wipe_8 : decode cX5_wipe 8 = .ok (.aload_n 0, 1) := by decide +kernel
theorem dX5_wipe_9 : decode cX5_wipe 9 = .ok (.getfield 29, 3) := by decide +kernel
theorem dX5_wipe_12 : decode cX5_wipe 12 = .ok (.iconst 0, 1) := by decide +kernel
theorem dX5_wipe_13 : decode cX5_wipe 13 = .ok (.putfield 213, 3) := by decide +kernel
theorem dX5_wipe_16 : decode cX5_wipe 16 = .ok (.iload_n 1, 1) := by decide +kernel
theorem dX5_wipe_17 : decode cX5_wipe 17 = .ok (.ireturn, 1) := by decide +kernel
theorem dX5_text_0 : decode cX5_text 0 = .ok (.aload_n 0, 1) := by decide +kernel
theorem dX5_text_1 : decode cX5_text 1 = .ok (.getfield 16, 3) := by decide +kernel
theorem dX5_text_4 : decode cX5_text 4 = .ok (.aload_n 0, 1) := by decide +kernel
theorem dX5_text_5 : decode cX5_text 5 = .ok (.getfield 12, 3) := by decide +kernel
theorem dX5_text_8 : decode cX5_text 8 = .ok (.invokevirtual 150, 3) := by decide +kernel
theorem dX5_text_11 : decode cX5_text 11 = .ok (.aload_n 0, 1) := by decide +kernel
theorem dX5_text_12 : decode cX5_text 12 = .ok (.getfield 29, 3) := by decide +kernel
theorem dX5_text_15 : decode cX5_text 15 = .ok (.aload_n 0, 1) := by decide +kernel
theorem dX5_text_16 : decode cX5_text 16 = .ok (.getfield 16, 3) := by decide +kernel
theorem dX5_text_19 : decode cX5_text 19 = .ok (.invokevirtual 219, 3) := by decide +kernel
theorem dX5_text_22 : decode cX5_text 22 = .ok (.istore_n 1, 1) := by decide +kernel
theorem dX5_text_23 : decode cX5_text 23 = .ok (.aload_n 0, 1) := by decide +kernel
theorem dX5_text_24 : decode cX5_text 24 = .ok (.getfield 29, 3) := by decide +kernel
theorem dX5_text_27 : decode cX5_text 27 = .ok (.iconst 0, 1) := by decide +kernel
theorem dX5_text_28 : decode cX5_text 28 = .ok (.putfield 213, 3) := by decide +kernel
theorem dX5_text_31 : decode cX5_text 31 = .ok (.iload_n 1, 1) := by decide +kernel
theorem dX5_text_32 : decode cX5_text 32 = .ok (.ifCond .lt 14, 3) := by decide +kernel
theorem dX5_text_35 : decode cX5_text 35 = .ok (.aload_n 0, 1) := by decide +kernel
theorem dX5_text_36 : decode cX5_text 36 = .ok (.getfield 12, 3) := by decide +kernel
theorem dX5_text_39 : decode cX5_text 39 = .ok (.aload_n 0, 1) := by decide +kernel
theorem dX5_text_40 : decode cX5_text 40 = .ok (.getfield 16, 3) := by decide +kernel
theorem dX5_text_43 : decode cX5_text 43 = .ok (.invokevirtual 150, 3) := by decide +kernel
theorem dX5_text_46 : decode cX5_text 46 = .ok (.iload_n 1, 1) := by decide +kernel
theorem dX5_text_47 : decode cX5_text 47 = .ok (.ireturn, 1) := by decide +kernel
theorem dX5_hold_0 : decode cX5_hold 0 = .ok (.iload_n 1, 1) := by decide +kernel
theorem dX5_hold_1 : decode cX5_hold 1 = .ok (.iconst 0, 1) := by decide +kernel
theorem dX5_hold_2 : decode cX5_hold 2 = .ok (.bipush 9, 2) := by decide +kernel
theorem dX5_hold_4 : decode cX5_hold 4 = .ok (.invokestatic 51, 3) := by decide +kernel
theorem dX5_hold_7 : decode cX5_hold 7 = .ok (.ifCond .ne 19, 3) := by decide +kernel
theorem dX5_hold_10 : decode cX5_hold 10 = .ok (.iload_n 2, 1) := by decide +kernel
theorem dX5_hold_11 : decode cX5_hold 11 = .ok (.iconst (-1), 1) := by decide +kernel
theorem dX5_hold_12 : decode cX5_hold 12 = .ok (.if_icmp .eq 21, 3) := by decide +kernel
theorem dX5_hold_15 : decode cX5_hold 15 = .ok (.aload_n 0, 1) := by decide +kernel
theorem dX5_hold_16 : decode cX5_hold 16 = .ok (.getfield 12, 3) := by decide +kernel
theorem dX5_hold_19 : decode cX5_hold 19 = .ok (.iload_n 2, 1) := by decide +kernel
theorem dX5_hold_20 : decode cX5_hold 20 = .ok (.invokevirtual 68, 3) := by decide +kernel
theorem dX5_hold_23 : decode cX5_hold 23 = .ok (.ifCond .ne 10, 3) := by decide +kernel
theorem dX5_hold_26 : decode cX5_hold 26 = .ok (.aload_n 0, 1) := by decide +kernel
theorem dX5_hold_27 : decode cX5_hold 27 = .ok (.ldc 55, 2) := by decide +kernel
theorem dX5_hold_29 : decode cX5_hold 29 = .ok (.invokevirtual 56, 3) := by decide +kernel
theorem dX5_hold_32 : decode cX5_hold 32 = .ok (.ireturn, 1) := by decide +kernel
theorem dX5_hold_33 : decode cX5_hold 33 = .ok (.aload_n 0, 1) := by decide +kernel
theorem dX5_hold_34 : decode cX5_hold 34 = .ok (.getfield 12, 3) := by decide +kernel
theorem dX5_hold_37 : decode cX5_hold 37 = .ok (.getfield 223, 3) := by decide +kernel
theorem dX5_hold_40 : decode cX5_hold 40 = .ok (.iload_n 1, 1) := by decide +kernel
theorem dX5_hold_41 : decode cX5_hold 41 = .ok (.iload_n 2, 1) := by decide +kernel
theorem dX5_hold_42 : decode cX5_hold 42 = .ok (.iastore, 1) := by decide +kernel
theorem dX5_hold_43 : decode cX5_hold 43 = .ok (.iconst 1, 1) := by decide +kernel
theorem dX5_hold_44 : decode cX5_hold 44 = .ok (.ireturn, 1) := by decide +kernel
theorem dX5_as_0 : decode cX5_as 0 = .ok (.iload_n 1, 1) := by decide +kernel
theorem dX5_as_1 : decode cX5_as 1 = .ok (.iconst 0, 1) := by decide +kernel
theorem dX5_as_2 : decode cX5_as 2 = .ok (.bipush 9, 2) := by decide +kernel
theorem dX5_as_4 : decode cX5_as 4 = .ok (.invokestatic 51, 3) := by decide +kernel
theorem dX5_as_7 : decode cX5_as 7 = .ok (.ifCond .ne 13, 3) := by decide +kernel
theorem dX5_as_10 : decode cX5_as 10 = .ok (.iload_n 2, 1) := by decide +kernel
theorem dX5_as_11 : decode cX5_as 11 = .ok (.iconst 0, 1) := by decide +kernel
theorem dX5_as_12 : decode cX5_as 12 = .ok (.bipush 6, 2) := by decide +kernel
theorem dX5_as_14 : decode cX5_as 14 = .ok (.invokestatic 51, 3) := by decide +kernel
theorem dX5_as_17 : decode cX5_as 17 = .ok (.ifCond .eq 10, 3) := by decide +kernel
theorem dX5_as_20 : decode cX5_as 20 = .ok (.aload_n 0, 1) := by decide +kernel
theorem dX5_as_21 : decode cX5_as 21 = .ok (.ldc 55, 2) := by decide +kernel
theorem dX5_as_23 : decode cX5_as 23 = .ok (.invokevirtual 56, 3) := by decide +kernel
theorem dX5_as_26 : decode cX5_as 26 = .ok (.ireturn, 1) := by decide +kernel
theorem dX5_as_27 : decode cX5_as 27 = .ok (.aload_n 0, 1) := by decide +kernel
theorem dX5_as_28 : decode cX5_as 28 = .ok (.getfield 12, 3) := by decide +kernel
theorem dX5_as_31 : decode cX5_as 31 = .ok (.getfield 223, 3) := by decide +kernel
theorem dX5_as_34 : decode cX5_as 34 = .ok (.iload_n 1, 1) := by decide +kernel
theorem dX5_as_35 : decode cX5_as 35 = .ok (.iaload, 1) := by decide +kernel
theorem dX5_as_36 : decode cX5_as 36 = .ok (.istore_n 3, 1) := by decide +kernel
theorem dX5_as_37 : decode cX5_as 37 = .ok (.aload_n 0, 1) := by decide +kernel
theorem dX5_as_38 : decode cX5_as 38 = .ok (.getfield 12, 3) := by decide +kernel
theorem dX5_as_41 : decode cX5_as 41 = .ok (.iload_n 3, 1) := by decide +kernel
theorem dX5_as_42 : decode cX5_as 42 = .ok (.invokevirtual 68, 3) := by decide +kernel
theorem dX5_as_45 : decode cX5_as 45 = .ok (.ifCond .ne 10, 3) := by decide +kernel
theorem dX5_as_48 : decode cX5_as 48 = .ok (.aload_n 0, 1) := by decide +kernel
theorem dX5_as_49 : decode cX5_as 49 = .ok (.ldc 226, 2) := by decide +kernel
theorem dX5_as_51 : decode cX5_as 51 = .ok (.invokevirtual 56, 3) := by decide +kernel
theorem dX5_as_54 : decode cX5_as 54 = .ok (.ireturn, 1) := by decide +kernel
theorem dX5_as_55 : decode cX5_as 55 = .ok (.aload_n 0, 1) := by decide +kernel
theorem dX5_as_56 : decode cX5_as 56 = .ok (.getfield 12, 3) := by decide +kernel
theorem dX5_as_59 : decode cX5_as 59 = .ok (.iload_n 3, 1) := by decide +kernel
theorem dX5_as_60 : decode cX5_as 60 = .ok (.iconst 0, 1) := by decide +kernel
theorem dX5_as_61 : decode cX5_as 61 = .ok (.invokevirtual 75, 3) := by decide +kernel
theorem dX5_as_64 : decode cX5_as 64 = .ok (.iload_n 2, 1) := by decide +kernel
theorem dX5_as_65 : decode cX5_as 65 = .ok (.invokestatic 227, 3) := by decide +kernel
theorem dX5_as_68 : decode cX5_as 68 = .ok (.ifCond .eq 7, 3) := by decide +kernel
theorem dX5_as_71 : decode cX5_as 71 = .ok (.iload_n 3, 1) := by decide +kernel
theorem dX5_as_72 : decode cX5_as 72 = .ok (.goto 9, 3) := by decide +kernel
theorem dX5_as_75 : decode cX5_as 75 = .ok (.aload_n 0, 1) := by decide +kernel
theorem dX5_as_76 : decode cX5_as 76 = .ok (.ldc 232, 2) := by decide +kernel
theorem dX5_as_78 : decode cX5_as 78 = .ok (.invokevirtual 56, 3) := by decide +kernel
theorem dX5_as_81 : decode cX5_as 81 = .ok (.ireturn, 1) := by decide +kernel
theorem dX5_sheet_0 : decode cX5_sheet 0 = .ok (.iload_n 1, 1) := by decide +kernel
theorem dX5_sheet_1 : decode cX5_sheet 1 = .ok (.invokestatic 233, 3) := by decide +kernel
theorem dX5_sheet_4 : decode cX5_sheet 4 = .ok (.ifCond .ne 25, 3) := by decide +kernel
theorem dX5_sheet_7 : decode cX5_sheet 7 = .ok (.iload_n 2, 1) := by decide +kernel
theorem dX5_sheet_8 : decode cX5_sheet 8 = .ok (.ifCond .eq 28, 3) := by decide +kernel
theorem dX5_sheet_11 : decode cX5_sheet 11 = .ok (.iload_n 2, 1) := by decide +kernel
theorem dX5_sheet_12 : decode cX5_sheet 12 = .ok (.bipush 8, 2) := by decide +kernel
theorem dX5_sheet_14 : decode cX5_sheet 14 = .ok (.if_icmp .eq 22, 3) := by decide +kernel
theorem dX5_sheet_17 : decode cX5_sheet 17 = .ok (.iload_n 2, 1) := by decide +kernel
theorem dX5_sheet_18 : decode cX5_sheet 18 = .ok (.bipush 16, 2) := by decide +kernel
theorem dX5_sheet_20 : decode cX5_sheet 20 = .ok (.if_icmp .eq 16, 3) := by decide +kernel
theorem dX5_sheet_23 : decode cX5_sheet 23 = .ok (.iload_n 2, 1) := by decide +kernel
theorem dX5_sheet_24 : decode cX5_sheet 24 = .ok (.bipush 32, 2) := by decide +kernel
theorem dX5_sheet_26 : decode cX5_sheet 26 = .ok (.if_icmp .eq 10, 3) := by decide +kernel
theorem dX5_sheet_29 : decode cX5_sheet 29 = .ok (.aload_n 0, 1) := by decide +kernel
theorem dX5_sheet_30 : decode cX5_sheet 30 = .ok (.ldc 55, 2) := by decide +kernel
theorem dX5_sheet_32 : decode cX5_sheet 32 = .ok (.invokevirtual 56, 3) := by decide +kernel
theorem dX5_sheet_35 : decode cX5_sheet 35 = .ok (.ireturn, 1) := by decide +kernel
theorem dX5_sheet_36 : decode cX5_sheet 36 = .ok (.iload_n 3, 1) := by decide +kernel
theorem dX5_sheet_37 : decode cX5_sheet 37 = .ok (.ifCond .ge 10, 3) := by decide +kernel
theorem dX5_sheet_40 : decode cX5_sheet 40 = .ok (.aload_n 0, 1) := by decide +kernel
theorem dX5_sheet_41 : decode cX5_sheet 41 = .ok (.ldc 236, 2) := by decide +kernel
theorem dX5_sheet_43 : decode cX5_sheet 43 = .ok (.invokevirtual 56, 3) := by decide +kernel
theorem dX5_sheet_46 : decode cX5_sheet 46 = .ok (.ireturn, 1) := by decide +kernel
theorem dX5_sheet_47 : decode cX5_sheet 47 = .ok (.iload_n 3, 1) := by decide +kernel
theorem dX5_sheet_48 : decode cX5_sheet 48 = .ok (.bipush 40, 2) := by decide +kernel
theorem dX5_sheet_50 : decode cX5_sheet 50 = .ok (.if_icmp .le 10, 3) := by decide +kernel
theorem dX5_sheet_53 : decode cX5_sheet 53 = .ok (.aload_n 0, 1) := by decide +kernel
theorem dX5_sheet_54 : decode cX5_sheet 54 = .ok (.ldc 55, 2) := by decide +kernel
theorem dX5_sheet_56 : decode cX5_sheet 56 = .ok (.invokevirtual 56, 3) := by decide +kernel
theorem dX5_sheet_59 : decode cX5_sheet 59 = .ok (.ireturn, 1) := by decide +kernel
theorem dX5_sheet_60 : decode cX5_sheet 60 = .ok (.aload_n 0, 1) := by decide +kernel
theorem dX5_sheet_61 : decode cX5_sheet 61 = .ok (.getfield 42, 3) := by decide +kernel
theorem dX5_sheet_64 : decode cX5_sheet 64 = .ok (.iload_n 1, 1) := by decide +kernel
theorem dX5_sheet_65 : decode cX5_sheet 65 = .ok (.aaload, 1) := by decide +kernel
theorem dX5_sheet_66 : decode cX5_sheet 66 = .ok (.iload_n 2, 1) := by decide +kernel
theorem dX5_sheet_67 : decode cX5_sheet 67 = .ok (.iload_n 3, 1) := by decide +kernel
theorem dX5_sheet_68 : decode cX5_sheet 68 = .ok (.invokevirtual 237, 3) := by decide +kernel
theorem dX5_sheet_71 : decode cX5_sheet 71 = .ok (.ireturn, 1) := by decide +kernel
theorem dX5_write_0 : decode cX5_write 0 = .ok (.aload_n 0, 1) := by decide +kernel
theorem dX5_write_1 : decode cX5_write 1 = .ok (.iload_n 1, 1) := by decide +kernel
theorem dX5_write_2 : decode cX5_write 2 = .ok (.invokevirtual 240, 3) := by decide +kernel
theorem dX5_write_5 : decode cX5_write 5 = .ok (.istore 4, 2) := by decide +kernel
theorem dX5_write_7 : decode cX5_write 7 = .ok (.iload 4, 2) := by decide +kernel
theorem dX5_write_9 : decode cX5_write 9 = .ok (.ifCond .eq 10, 3) := by decide +kernel
theorem dX5_write_12 : decode cX5_write 12 = .ok (.aload_n 0, 1) := by decide +kernel
theorem dX5_write_13 : decode cX5_write 13 = .ok (.iload 4, 2) := by decide +kernel
theorem dX5_write_15 : decode cX5_write 15 = .ok (.invokevirtual 56, 3) := by decide +kernel
theorem dX5_write_18 : decode cX5_write 18 = .ok (.ireturn, 1) := by decide +kernel
theorem dX5_write_19 : decode cX5_write 19 = .ok (.iload_n 2, 1) := by decide +kernel
theorem dX5_write_20 : decode cX5_write 20 = .ok (.iconst 0, 1) := by decide +kernel
theorem dX5_write_21 : decode cX5_write 21 = .ok (.aload_n 0, 1) := by decide +kernel
theorem dX5_write_22 : decode cX5_write 22 = .ok (.getfield 42, 3) := by decide +kernel
theorem dX5_write_25 : decode cX5_write 25 = .ok (.iload_n 1, 1) := by decide +kernel
theorem dX5_write_26 : decode cX5_write 26 = .ok (.aaload, 1) := by decide +kernel
theorem dX5_write_27 : decode cX5_write 27 = .ok (.getfield 243, 3) := by decide +kernel
theorem dX5_write_30 : decode cX5_write 30 = .ok (.iconst 1, 1) := by decide +kernel
theorem dX5_write_31 : decode cX5_write 31 = .ok (.isub, 1) := by decide +kernel
theorem dX5_write_32 : decode cX5_write 32 = .ok (.invokestatic 51, 3) := by decide +kernel
theorem dX5_write_35 : decode cX5_write 35 = .ok (.ifCond .eq 10, 3) := by decide +kernel
theorem dX5_write_38 : decode cX5_write 38 = .ok (.aload_n 0, 1) := by decide +kernel
theorem dX5_write_39 : decode cX5_write 39 = .ok (.ldc 55, 2) := by decide +kernel
theorem dX5_write_41 : decode cX5_write 41 = .ok (.invokevirtual 56, 3) := by decide +kernel
theorem dX5_write_44 : decode cX5_write 44 = .ok (.ireturn, 1) := by decide +kernel
theorem dX5_write_45 : decode cX5_write 45 = .ok (.aload_n 0, 1) := by decide +kernel
theorem dX5_write_46 : decode cX5_write 46 = .ok (.getfield 42, 3) := by decide +kernel
theorem dX5_write_49 : decode cX5_write 49 = .ok (.iload_n 1, 1) := by decide +kernel
theorem dX5_write_50 : decode cX5_write 50 = .ok (.aaload, 1) := by decide +kernel
theorem dX5_write_51 : decode cX5_write 51 = .ok (.iload_n 2, 1) := by decide +kernel
theorem dX5_write_52 : decode cX5_write 52 = .ok (.iload_n 3, 1) := by decide +kernel
theorem dX5_write_53 : decode cX5_write 53 = .ok (.invokevirtual 246, 3) := by decide +kernel
theorem dX5_write_56 : decode cX5_write 56 = .ok (.iconst 1, 1) := by decide +kernel
theorem dX5_write_57 : decode cX5_write 57 = .ok (.ireturn, 1) := by decide +kernel
theorem dX5_copy_0 : decode cX5_copy 0 = .ok (.iload_n 1, 1) := by decide +kernel
theorem dX5_copy_1 : decode cX5_copy 1 = .ok (.invokestatic 233, 3) := by decide +kernel
theorem dX5_copy_4 : decode cX5_copy 4 = .ok (.ifCond .ne 10, 3) := by decide +kernel
theorem dX5_copy_7 : decode cX5_copy 7 = .ok (.iload_n 3, 1) := by decide +kernel
theorem dX5_copy_8 : decode cX5_copy 8 = .ok (.invokestatic 233, 3) := by decide +kernel
theorem dX5_copy_11 : decode cX5_copy 11 = .ok (.ifCond .eq 10, 3) := by decide +kernel
theorem dX5_copy_14 : decode cX5_copy 14 = .ok (.aload_n 0, 1) := by decide +kernel
theorem dX5_copy_15 : decode cX5_copy 15 = .ok (.ldc 55, 2) := by decide +kernel
theorem dX5_copy_17 : decode cX5_copy 17 = .ok (.invokevirtual 56, 3) := by decide +kernel
theorem dX5_copy_20 : decode cX5_copy 20 = .ok (.ireturn, 1) := by decide +kernel
theorem dX5_copy_21 : decode cX5_copy 21 = .ok (.aload_n 0, 1) := by decide +kernel
theorem dX5_copy_22 : decode cX5_copy 22 = .ok (.getfield 42, 3) := by decide +kernel
theorem dX5_copy_25 : decode cX5_copy 25 = .ok (.iload_n 1, 1) := by decide +kernel
theorem dX5_copy_26 : decode cX5_copy 26 = .ok (.aaload, 1) := by decide +kernel
theorem dX5_copy_27 : decode cX5_copy 27 = .ok (.invokevirtual 249, 3) := by decide +kernel
theorem dX5_copy_30 : decode cX5_copy 30 = .ok (.ifCond .ne 15, 3) := by decide +kernel
theorem dX5_copy_33 : decode cX5_copy 33 = .ok (.aload_n 0, 1) := by decide +kernel
theorem dX5_copy_34 : decode cX5_copy 34 = .ok (.getfield 42, 3) := by decide +kernel
theorem dX5_copy_37 : decode cX5_copy 37 = .ok (.iload_n 3, 1) := by decide +kernel
theorem dX5_copy_38 : decode cX5_copy 38 = .ok (.aaload, 1) := by decide +kernel
theorem dX5_copy_39 : decode cX5_copy 39 = .ok (.invokevirtual 249, 3) := by decide +kernel
theorem dX5_copy_42 : decode cX5_copy 42 = .ok (.ifCond .eq 10, 3) := by decide +kernel
theorem dX5_copy_45 : decode cX5_copy 45 = .ok (.aload_n 0, 1) := by decide +kernel
theorem dX5_copy_46 : decode cX5_copy 46 = .ok (.ldc 226, 2) := by decide +kernel
theorem dX5_copy_48 : decode cX5_copy 48 = .ok (.invokevirtual 56, 3) := by decide +kernel
theorem dX5_copy_51 : decode cX5_copy 51 = .ok (.ireturn, 1) := by decide +kernel
theorem dX5_copy_52 : decode cX5_copy 52 = .ok (.aload_n 0, 1) := by decide +kernel
theorem dX5_copy_53 : decode cX5_copy 53 = .ok (.getfield 42, 3) := by decide +kernel
theorem dX5_copy_56 : decode cX5_copy 56 = .ok (.iload_n 1, 1) := by decide +kernel
theorem dX5_copy_57 : decode cX5_copy 57 = .ok (.aaload, 1) := by decide +kernel
theorem dX5_copy_58 : decode cX5_copy 58 = .ok (.getfield 252, 3) := by decide +kernel
theorem dX5_copy_61 : decode cX5_copy 61 = .ok (.aload_n 0, 1) := by decide +kernel
theorem dX5_copy_62 : decode cX5_copy 62 = .ok (.getfield 42, 3) := by decide +kernel
theorem dX5_copy_65 : decode cX5_copy 65 = .ok (.iload_n 3, 1) := by decide +kernel
theorem dX5_copy_66 : decode cX5_copy 66 = .ok (.aaload, 1) := by decide +kernel
theorem dX5_copy_67 : decode cX5_copy 67 = .ok (.getfield 252, 3) := by decide +kernel
theorem dX5_copy_70 : decode cX5_copy 70 = .ok (.if_icmp .eq 10, 3) := by decide +kernel
theorem dX5_copy_73 : decode cX5_copy 73 = .ok (.aload_n 0, 1) := by decide +kernel
theorem dX5_copy_74 : decode cX5_copy 74 = .ok (.ldc 232, 2) := by decide +kernel
theorem dX5_copy_76 : decode cX5_copy 76 = .ok (.invokevirtual 56, 3) := by decide +kernel
theorem dX5_copy_79 : decode cX5_copy 79 = .ok (.ireturn, 1) := by decide +kernel
theorem dX5_copy_80 : decode cX5_copy 80 = .ok (.aload_n 0, 1) := by decide +kernel
theorem dX5_copy_81 : decode cX5_copy 81 = .ok (.getfield 42, 3) := by decide +kernel
theorem dX5_copy_84 : decode cX5_copy 84 = .ok (.iload_n 1, 1) := by decide +kernel
theorem dX5_copy_85 : decode cX5_copy 85 = .ok (.aaload, 1) := by decide +kernel
theorem dX5_copy_86 : decode cX5_copy 86 = .ok (.iload_n 2, 1) := by decide +kernel
theorem dX5_copy_87 : decode cX5_copy 87 = .ok (.iload 5, 2) := by decide +kernel
theorem dX5_copy_89 : decode cX5_copy 89 = .ok (.invokevirtual 255, 3) := by decide +kernel
theorem dX5_copy_92 : decode cX5_copy 92 = .ok (.ifCond .eq 19, 3) := by decide +kernel
theorem dX5_copy_95 : decode cX5_copy 95 = .ok (.aload_n 0, 1) := by decide +kernel
theorem dX5_copy_96 : decode cX5_copy 96 = .ok (.getfield 42, 3) := by decide +kernel
theorem dX5_copy_99 : decode cX5_copy 99 = .ok (.iload_n 3, 1) := by decide +kernel
theorem dX5_copy_100 : decode cX5_copy 100 = .ok (.aaload, 1) := by decide +kernel
theorem dX5_copy_101 : decode cX5_copy 101 = .ok (.iload 4, 2) := by decide +kernel
theorem dX5_copy_103 : decode cX5_copy 103 = .ok (.iload 5, 2) := by decide +kernel
theorem dX5_copy_105 : decode cX5_copy 105 = .ok (.invokevirtual 255, 3) := by decide +kernel
theorem dX5_copy_108 : decode cX5_copy 108 = .ok (.ifCond .ne 10, 3) := by decide +kernel
theorem dX5_copy_111 : decode cX5_copy 111 = .ok (.aload_n 0, 1) := by decide +kernel
theorem dX5_copy_112 : decode cX5_copy 112 = .ok (.ldc 55, 2) := by decide +kernel
theorem dX5_copy_114 : decode cX5_copy 114 = .ok (.invokevirtual 56, 3) := by decide +kernel
theorem dX5_copy_117 : decode cX5_copy 117 = .ok (.ireturn, 1) := by decide +kernel
theorem dX5_copy_118 : decode cX5_copy 118 = .ok (.aload_n 0, 1) := by decide +kernel
theorem dX5_copy_119 : decode cX5_copy 119 = .ok (.getfield 42, 3) := by decide +kernel
theorem dX5_copy_122 : decode cX5_copy 122 = .ok (.iload_n 1, 1) := by decide +kernel
theorem dX5_copy_123 : decode cX5_copy 123 = .ok (.aaload, 1) := by decide +kernel
theorem dX5_copy_124 : decode cX5_copy 124 = .ok (.getfield 258, 3) := by decide +kernel
theorem dX5_copy_127 : decode cX5_copy 127 = .ok (.iload_n 2, 1) := by decide +kernel
theorem dX5_copy_128 : decode cX5_copy 128 = .ok (.aload_n 0, 1) := by decide +kernel
theorem dX5_copy_129 : decode cX5_copy 129 = .ok (.getfield 42, 3) := by decide +kernel
theorem dX5_copy_132 : decode cX5_copy 132 = .ok (.iload_n 3, 1) := by decide +kernel
theorem dX5_copy_133 : decode cX5_copy 133 = .ok (.aaload, 1) := by decide +kernel
theorem dX5_copy_134 : decode cX5_copy 134 = .ok (.getfield 258, 3) := by decide +kernel
theorem dX5_copy_137 : decode cX5_copy 137 = .ok (.iload 4, 2) := by decide +kernel
theorem dX5_copy_139 : decode cX5_copy 139 = .ok (.iload 5, 2) := by decide +kernel
theorem dX5_copy_141 : decode cX5_copy 141 = .ok (.invokestatic 261, 3) := by decide +kernel
theorem dX5_copy_144 : decode cX5_copy 144 = .ok (.iload 5, 2) := by decide +kernel
theorem dX5_copy_146 : decode cX5_copy 146 = .ok (.ireturn, 1) := by decide +kernel
theorem dX5_load_0 : decode cX5_load 0 = .ok (.aload_n 0, 1) := by decide +kernel
theorem dX5_load_1 : decode cX5_load 1 = .ok (.iload_n 1, 1) := by decide +kernel
theorem dX5_load_2 : decode cX5_load 2 = .ok (.invokevirtual 240, 3) := by decide +kernel
theorem dX5_load_5 : decode cX5_load 5 = .ok (.istore_n 2, 1) := by decide +kernel
theorem dX5_load_6 : decode cX5_load 6 = .ok (.iload_n 2, 1) := by decide +kernel
theorem dX5_load_7 : decode cX5_load 7 = .ok (.ifCond .eq 9, 3) := by decide +kernel
theorem dX5_load_10 : decode cX5_load 10 = .ok (.aload_n 0, 1) := by decide +kernel
theorem dX5_load_11 : decode cX5_load 11 = .ok (.iload_n 2, 1) := by decide +kernel
theorem dX5_load_12 : decode cX5_load 12 = .ok (.invokevirtual 56, 3) := by decide +kernel
theorem dX5_load_15 : decode cX5_load 15 = .ok (.ireturn, 1) := by decide +kernel
theorem dX5_load_16 : decode cX5_load 16 = .ok (.aload_n 0, 1) := by decide +kernel
theorem dX5_load_17 : decode cX5_load 17 = .ok (.getfield 42, 3) := by decide +kernel
theorem dX5_load_20 : decode cX5_load 20 = .ok (.iload_n 1, 1) := by decide +kernel
theorem dX5_load_21 : decode cX5_load 21 = .ok (.aaload, 1) := by decide +kernel
theorem dX5_load_22 : decode cX5_load 22 = .ok (.astore_n 3, 1) := by decide +kernel
theorem dX5_load_23 : decode cX5_load 23 = .ok (.iconst 0, 1) := by decide +kernel
theorem dX5_load_24 : decode cX5_load 24 = .ok (.istore 4, 2) := by decide +kernel
theorem dX5_load_26 : decode cX5_load 26 = .ok (.iload 4, 2) := by decide +kernel
theorem dX5_load_28 : decode cX5_load 28 = .ok (.aload_n 3, 1) := by decide +kernel
theorem dX5_load_29 : decode cX5_load 29 = .ok (.getfield 243, 3) := by decide +kernel
theorem dX5_load_32 : decode cX5_load 32 = .ok (.if_icmp .ge 61, 3) := by decide +kernel
theorem dX5_load_35 : decode cX5_load 35 = .ok (.aload_n 0, 1) := by decide +kernel
theorem dX5_load_36 : decode cX5_load 36 = .ok (.getfield 12, 3) := by decide +kernel
theorem dX5_load_39 : decode cX5_load 39 = .ok (.iload 4, 2) := by decide +kernel
theorem dX5_load_41 : decode cX5_load 41 = .ok (.invokevirtual 68, 3) := by decide +kernel
theorem dX5_load_44 : decode cX5_load 44 = .ok (.ifCond .eq 49, 3) := by decide +kernel
theorem dX5_load_47 : decode cX5_load 47 = .ok (.aload_n 3, 1) := by decide +kernel
theorem dX5_load_48 : decode cX5_load 48 = .ok (.getfield 258, 3) := by decide +kernel
theorem dX5_load_51 : decode cX5_load 51 = .ok (.iload 4, 2) := by decide +kernel
theorem dX5_load_53 : decode cX5_load 53 = .ok (.iaload, 1) := by decide +kernel
theorem dX5_load_54 : decode cX5_load 54 = .ok (.bipush (-9), 2) := by decide +kernel
theorem dX5_load_56 : decode cX5_load 56 = .ok (.bipush 9, 2) := by decide +kernel
theorem dX5_load_58 : decode cX5_load 58 = .ok (.invokestatic 51, 3) := by decide +kernel
theorem dX5_load_61 : decode cX5_load 61 = .ok (.ifCond .ne 32, 3) := by decide +kernel
theorem dX5_load_64 : decode cX5_load 64 = .ok (.aload_n 0, 1) := by decide +kernel
theorem dX5_load_65 : decode cX5_load 65 = .ok (.getfield 12, 3) := by decide +kernel
theorem dX5_load_68 : decode cX5_load 68 = .ok (.iload 4, 2) := by decide +kernel
theorem dX5_load_70 : decode cX5_load 70 = .ok (.aload_n 0, 1) := by decide +kernel
theorem dX5_load_71 : decode cX5_load 71 = .ok (.getfield 12, 3) := by decide +kernel
theorem dX5_load_74 : decode cX5_load 74 = .ok (.getfield 122, 3) := by decide +kernel
theorem dX5_load_77 : decode cX5_load 77 = .ok (.aload_n 3, 1) := by decide +kernel
theorem dX5_load_78 : decode cX5_load 78 = .ok (.getfield 258, 3) := by decide +kernel
theorem dX5_load_81 : decode cX5_load 81 = .ok (.iload 4, 2) := by decide +kernel
theorem dX5_load_83 : decode cX5_load 83 = .ok (.iaload, 1) := by decide +kernel
theorem dX5_load_84 : decode cX5_load 84 = .ok (.invokevirtual 267, 3) := by decide +kernel
theorem dX5_load_87 : decode cX5_load 87 = .ok (.iinc 4 1, 3) := by decide +kernel
theorem dX5_load_90 : decode cX5_load 90 = .ok (.goto (-64), 3) := by decide +kernel
theorem dX5_load_93 : decode cX5_load 93 = .ok (.iload 4, 2) := by decide +kernel
theorem dX5_load_95 : decode cX5_load 95 = .ok (.ireturn, 1) := by decide +kernel
theorem dX5_judge_0 : decode cX5_judge 0 = .ok (.aload_n 0, 1) := by decide +kernel
theorem dX5_judge_1 : decode cX5_judge 1 = .ok (.iload_n 1, 1) := by decide +kernel
theorem dX5_judge_2 : decode cX5_judge 2 = .ok (.invokevirtual 240, 3) := by decide +kernel
theorem dX5_judge_5 : decode cX5_judge 5 = .ok (.istore_n 2, 1) := by decide +kernel
theorem dX5_judge_6 : decode cX5_judge 6 = .ok (.iload_n 2, 1) := by decide +kernel
theorem dX5_judge_7 : decode cX5_judge 7 = .ok (.ifCond .eq 9, 3) := by decide +kernel
theorem dX5_judge_10 : decode cX5_judge 10 = .ok (.aload_n 0, 1) := by decide +kernel
theorem dX5_judge_11 : decode cX5_judge 11 = .ok (.iload_n 2, 1) := by decide +kernel
theorem dX5_judge_12 : decode cX5_judge 12 = .ok (.invokevirtual 56, 3) := by decide +kernel
theorem dX5_judge_15 : decode cX5_judge 15 = .ok (.ireturn, 1) := by decide +kernel
theorem dX5_judge_16 : decode cX5_judge 16 = .ok (.aload_n 0, 1) := by decide +kernel
theorem dX5_judge_17 : decode cX5_judge 17 = .ok (.getfield 42, 3) := by decide +kernel
theorem dX5_judge_20 : decode cX5_judge 20 = .ok (.iload_n 1, 1) := by decide +kernel
theorem dX5_judge_21 : decode cX5_judge 21 = .ok (.aaload, 1) := by decide +kernel
theorem dX5_judge_22 : decode cX5_judge 22 = .ok (.astore_n 3, 1) := by decide +kernel
theorem dX5_judge_23 : decode cX5_judge 23 = .ok (.iconst 0, 1) := by decide +kernel
theorem dX5_judge_24 : decode cX5_judge 24 = .ok (.istore 4, 2) := by decide +kernel
theorem dX5_judge_26 : decode cX5_judge 26 = .ok (.iload 4, 2) := by decide +kernel
theorem dX5_judge_28 : decode cX5_judge 28 = .ok (.aload_n 3, 1) := by decide +kernel
theorem dX5_judge_29 : decode cX5_judge 29 = .ok (.getfield 243, 3) := by decide +kernel
theorem dX5_judge_32 : decode cX5_judge 32 = .ok (.if_icmp .ge 52, 3) := by decide +kernel
theorem dX5_judge_35 : decode cX5_judge 35 = .ok (.aload_n 0, 1) := by decide +kernel
theorem dX5_judge_36 : decode cX5_judge 36 = .ok (.getfield 12, 3) := by decide +kernel
theorem dX5_judge_39 : decode cX5_judge 39 = .ok (.iload 4, 2) := by decide +kernel
theorem dX5_judge_41 : decode cX5_judge 41 = .ok (.invokevirtual 68, 3) := by decide +kernel
theorem dX5_judge_44 : decode cX5_judge 44 = .ok (.ifCond .eq 29, 3) := by decide +kernel
theorem dX5_judge_47 : decode cX5_judge 47 = .ok (.aload_n 0, 1) := by decide +kernel
theorem dX5_judge_48 : decode cX5_judge 48 = .ok (.getfield 12, 3) := by decide +kernel
theorem dX5_judge_51 : decode cX5_judge 51 = .ok (.iload 4, 2) := by decide +kernel
theorem dX5_judge_53 : decode cX5_judge 53 = .ok (.aload_n 0, 1) := by decide +kernel
theorem dX5_judge_54 : decode cX5_judge 54 = .ok (.getfield 12, 3) := by decide +kernel
theorem dX5_judge_57 : decode cX5_judge 57 = .ok (.getfield 122, 3) := by decide +kernel
theorem dX5_judge_60 : decode cX5_judge 60 = .ok (.invokevirtual 154, 3) := by decide +kernel
theorem dX5_judge_63 : decode cX5_judge 63 = .ok (.aload_n 3, 1) := by decide +kernel
theorem dX5_judge_64 : decode cX5_judge 64 = .ok (.getfield 258, 3) := by decide +kernel
theorem dX5_judge_67 : decode cX5_judge 67 = .ok (.iload 4, 2) := by decide +kernel
theorem dX5_judge_69 : decode cX5_judge 69 = .ok (.iaload, 1) := by decide +kernel
theorem dX5_judge_70 : decode cX5_judge 70 = .ok (.if_icmp .eq 8, 3) := by decide +kernel
theorem dX5_judge_73 : decode cX5_judge 73 = .ok (.iconst 1, 1) := by decide +kernel
theorem dX5_judge_74 : decode cX5_judge 74 = .ok (.iload 4, 2) := by decide +kernel
theorem dX5_judge_76 : decode cX5_judge 76 = .ok (.iadd, 1) := by decide +kernel
theorem dX5_judge_77 : decode cX5_judge 77 = .ok (.ireturn, 1) := by decide +kernel
theorem dX5_judge_78 : decode cX5_judge 78 = .ok (.iinc 4 1, 3) := by decide +kernel
theorem dX5_judge_81 : decode cX5_judge 81 = .ok (.goto (-55), 3) := by decide +kernel
theorem dX5_judge_84 : decode cX5_judge 84 = .ok (.iconst 0, 1) := by decide +kernel
theorem dX5_judge_85 : decode cX5_judge 85 = .ok (.ireturn, 1) := by decide +kernel
theorem dX5_image_0 : decode cX5_image 0 = .ok (.aload_n 0, 1) := by decide +kernel
theorem dX5_image_1 : decode cX5_image 1 = .ok (.getfield 19, 3) := by decide +kernel
theorem dX5_image_4 : decode cX5_image 4 = .ok (.aload_n 0, 1) := by decide +kernel
theorem dX5_image_5 : decode cX5_image 5 = .ok (.getfield 12, 3) := by decide +kernel
theorem dX5_image_8 : decode cX5_image 8 = .ok (.invokevirtual 150, 3) := by decide +kernel
theorem dX5_image_11 : decode cX5_image 11 = .ok (.aload_n 0, 1) := by decide +kernel
theorem dX5_image_12 : decode cX5_image 12 = .ok (.iconst 1, 1) := by decide +kernel
theorem dX5_image_13 : decode cX5_image 13 = .ok (.putfield 22, 3) := by decide +kernel
theorem dX5_image_16 : decode cX5_image 16 = .ok (.iconst 1, 1) := by decide +kernel
theorem dX5_image_17 : decode cX5_image 17 = .ok (.ireturn, 1) := by decide +kernel
theorem dX5_undo_0 : decode cX5_undo 0 = .ok (.aload_n 0, 1) := by decide +kernel
theorem dX5_undo_1 : decode cX5_undo 1 = .ok (.getfield 22, 3) := by decide +kernel
theorem dX5_undo_4 : decode cX5_undo 4 = .ok (.ifCond .ne 10, 3) := by decide +kernel
theorem dX5_undo_7 : decode cX5_undo 7 = .ok (.aload_n 0, 1) := by decide +kernel
theorem dX5_undo_8 : decode cX5_undo 8 = .ok (.ldc 160, 2) := by decide +kernel
theorem dX5_undo_10 : decode cX5_undo 10 = .ok (.invokevirtual 56, 3) := by decide +kernel
theorem dX5_undo_13 : decode cX5_undo 13 = .ok (.ireturn, 1) := by decide +kernel
theorem dX5_undo_14 : decode cX5_undo 14 = .ok (.aload_n 0, 1) := by decide +kernel
theorem dX5_undo_15 : decode cX5_undo 15 = .ok (.getfield 12, 3) := by decide +kernel
theorem dX5_undo_18 : decode cX5_undo 18 = .ok (.aload_n 0, 1) := by decide +kernel
theorem dX5_undo_19 : decode cX5_undo 19 = .ok (.getfield 19, 3) := by decide +kernel
theorem dX5_undo_22 : decode cX5_undo 22 = .ok (.invokevirtual 150, 3) := by decide +kernel
theorem dX5_undo_25 : decode cX5_undo 25 = .ok (.aload_n 0, 1) := by decide +kernel
theorem dX5_undo_26 : decode cX5_undo 26 = .ok (.getfield 12, 3) := by decide +kernel
theorem dX5_undo_29 : decode cX5_undo 29 = .ok (.getfield 126, 3) := by decide +kernel
theorem dX5_undo_32 : decode cX5_undo 32 = .ok (.ireturn, 1) := by decide +kernel
theorem dX5_tear_0 : decode cX5_tear 0 = .ok (.aload_n 0, 1) := by decide +kernel
theorem dX5_tear_1 : decode cX5_tear 1 = .ok (.getfield 22, 3) := by decide +kernel
theorem dX5_tear_4 : decode cX5_tear 4 = .ok (.ifCond .eq 7, 3) := by decide +kernel
theorem dX5_tear_7 : decode cX5_tear 7 = .ok (.iconst 1, 1) := by decide +kernel
theorem dX5_tear_8 : decode cX5_tear 8 = .ok (.goto 4, 3) := by decide +kernel
theorem dX5_tear_11 : decode cX5_tear 11 = .ok (.iconst 0, 1) := by decide +kernel
theorem dX5_tear_12 : decode cX5_tear 12 = .ok (.istore_n 1, 1) := by decide +kernel
theorem dX5_tear_13 : decode cX5_tear 13 = .ok (.aload_n 0, 1) := by decide +kernel
theorem dX5_tear_14 : decode cX5_tear 14 = .ok (.iconst 0, 1) := by decide +kernel
theorem dX5_tear_15 : decode cX5_tear 15 = .ok (.putfield 22, 3) := by decide +kernel
theorem dX5_tear_18 : decode cX5_tear 18 = .ok (.iload_n 1, 1) := by decide +kernel
theorem dX5_tear_19 : decode cX5_tear 19 = .ok (.ireturn, 1) := by decide +kernel
theorem dX5_count_0 : decode cX5_count 0 = .ok (.iload_n 1, 1) := by decide +kernel
theorem dX5_count_1 : decode cX5_count 1 = .ok (.tableswitch 111 0 7 #[47, 55, 63, 71, 79, 87, 95, 103], 47) := by decide +kernel
theorem dX5_count_48 : decode cX5_count 48 = .ok (.aload_n 0, 1) := by decide +kernel
theorem dX5_count_49 : decode cX5_count 49 = .ok (.getfield 12, 3) := by decide +kernel
theorem dX5_count_52 : decode cX5_count 52 = .ok (.getfield 126, 3) := by decide +kernel
theorem dX5_count_55 : decode cX5_count 55 = .ok (.ireturn, 1) := by decide +kernel
theorem dX5_count_56 : decode cX5_count 56 = .ok (.aload_n 0, 1) := by decide +kernel
theorem dX5_count_57 : decode cX5_count 57 = .ok (.getfield 12, 3) := by decide +kernel
theorem dX5_count_60 : decode cX5_count 60 = .ok (.getfield 169, 3) := by decide +kernel
theorem dX5_count_63 : decode cX5_count 63 = .ok (.ireturn, 1) := by decide +kernel
theorem dX5_count_64 : decode cX5_count 64 = .ok (.aload_n 0, 1) := by decide +kernel
theorem dX5_count_65 : decode cX5_count 65 = .ok (.getfield 12, 3) := by decide +kernel
theorem dX5_count_68 : decode cX5_count 68 = .ok (.getfield 122, 3) := by decide +kernel
theorem dX5_count_71 : decode cX5_count 71 = .ok (.ireturn, 1) := by decide +kernel
theorem dX5_count_72 : decode cX5_count 72 = .ok (.aload_n 0, 1) := by decide +kernel
theorem dX5_count_73 : decode cX5_count 73 = .ok (.getfield 12, 3) := by decide +kernel
theorem dX5_count_76 : decode cX5_count 76 = .ok (.getfield 135, 3) := by decide +kernel
theorem dX5_count_79 : decode cX5_count 79 = .ok (.ireturn, 1) := by decide +kernel
theorem dX5_count_80 : decode cX5_count 80 = .ok (.aload_n 0, 1) := by decide +kernel
theorem dX5_count_81 : decode cX5_count 81 = .ok (.getfield 12, 3) := by decide +kernel
theorem dX5_count_84 : decode cX5_count 84 = .ok (.invokevirtual 147, 3) := by decide +kernel
theorem dX5_count_87 : decode cX5_count 87 = .ok (.ireturn, 1) := by decide +kernel
theorem dX5_count_88 : decode cX5_count 88 = .ok (.aload_n 0, 1) := by decide +kernel
theorem dX5_count_89 : decode cX5_count 89 = .ok (.getfield 29, 3) := by decide +kernel
theorem dX5_count_92 : decode cX5_count 92 = .ok (.getfield 213, 3) := by decide +kernel
theorem dX5_count_95 : decode cX5_count 95 = .ok (.ireturn, 1) := by decide +kernel
theorem dX5_count_96 : decode cX5_count 96 = .ok (.aload_n 0, 1) := by decide +kernel
theorem dX5_count_97 : decode cX5_count 97 = .ok (.getfield 12, 3) := by decide +kernel
theorem dX5_count_100 : decode cX5_count 100 = .ok (.getfield 210, 3) := by decide +kernel
theorem dX5_count_103 : decode cX5_count 103 = .ok (.ireturn, 1) := by decide +kernel
theorem dX5_count_104 : decode cX5_count 104 = .ok (.aload_n 0, 1) := by decide +kernel
theorem dX5_count_105 : decode cX5_count 105 = .ok (.getfield 12, 3) := by decide +kernel
theorem dX5_count_108 : decode cX5_count 108 = .ok (.invokevirtual 270, 3) := by decide +kernel
theorem dX5_count_111 : decode cX5_count 111 = .ok (.ireturn, 1) := by decide +kernel
theorem dX5_count_112 : decode cX5_count 112 = .ok (.aload_n 0, 1) := by decide +kernel
theorem dX5_count_113 : decode cX5_count 113 = .ok (.ldc 55, 2) := by decide +kernel
theorem dX5_count_115 : decode cX5_count 115 = .ok (.invokevirtual 56, 3) := by decide +kernel
theorem dX5_count_118 : decode cX5_count 118 = .ok (.ireturn, 1) := by decide +kernel
theorem dX5_status_0 : decode cX5_status 0 = .ok (.iload_n 1, 1) := by decide +kernel
theorem dX5_status_1 : decode cX5_status 1 = .ok (.iconst (-1), 1) := by decide +kernel
theorem dX5_status_2 : decode cX5_status 2 = .ok (.bipush 6, 2) := by decide +kernel
theorem dX5_status_4 : decode cX5_status 4 = .ok (.invokestatic 51, 3) := by decide +kernel
theorem dX5_status_7 : decode cX5_status 7 = .ok (.ifCond .eq 10, 3) := by decide +kernel
theorem dX5_status_10 : decode cX5_status 10 = .ok (.aload_n 0, 1) := by decide +kernel
theorem dX5_status_11 : decode cX5_status 11 = .ok (.ldc 55, 2) := by decide +kernel
theorem dX5_status_13 : decode cX5_status 13 = .ok (.invokevirtual 56, 3) := by decide +kernel
theorem dX5_status_16 : decode cX5_status 16 = .ok (.ireturn, 1) := by decide +kernel
theorem dX5_status_17 : decode cX5_status 17 = .ok (.iload_n 1, 1) := by decide +kernel
theorem dX5_status_18 : decode cX5_status 18 = .ok (.ifCond .lt 10, 3) := by decide +kernel
theorem dX5_status_21 : decode cX5_status 21 = .ok (.aload_n 0, 1) := by decide +kernel
theorem dX5_status_22 : decode cX5_status 22 = .ok (.getfield 46, 3) := by decide +kernel
theorem dX5_status_25 : decode cX5_status 25 = .ok (.iload_n 1, 1) := by decide +kernel
theorem dX5_status_26 : decode cX5_status 26 = .ok (.iaload, 1) := by decide +kernel
theorem dX5_status_27 : decode cX5_status 27 = .ok (.ireturn, 1) := by decide +kernel
theorem dX5_status_28 : decode cX5_status 28 = .ok (.iconst 0, 1) := by decide +kernel
theorem dX5_status_29 : decode cX5_status 29 = .ok (.istore_n 2, 1) := by decide +kernel
theorem dX5_status_30 : decode cX5_status 30 = .ok (.iconst 0, 1) := by decide +kernel
theorem dX5_status_31 : decode cX5_status 31 = .ok (.istore_n 3, 1) := by decide +kernel
theorem dX5_status_32 : decode cX5_status 32 = .ok (.iload_n 3, 1) := by decide +kernel
theorem dX5_status_33 : decode cX5_status 33 = .ok (.bipush 7, 2) := by decide +kernel
theorem dX5_status_35 : decode cX5_status 35 = .ok (.if_icmp .ge 18, 3) := by decide +kernel
theorem dX5_status_38 : decode cX5_status 38 = .ok (.iload_n 2, 1) := by decide +kernel
theorem dX5_status_39 : decode cX5_status 39 = .ok (.aload_n 0, 1) := by decide +kernel
theorem dX5_status_40 : decode cX5_status 40 = .ok (.getfield 46, 3) := by decide +kernel
theorem dX5_status_43 : decode cX5_status 43 = .ok (.iload_n 3, 1) := by decide +kernel
theorem dX5_status_44 : decode cX5_status 44 = .ok (.iaload, 1) := by decide +kernel
theorem dX5_status_45 : decode cX5_status 45 = .ok (.iadd, 1) := by decide +kernel
theorem dX5_status_46 : decode cX5_status 46 = .ok (.istore_n 2, 1) := by decide +kernel
theorem dX5_status_47 : decode cX5_status 47 = .ok (.iinc 3 1, 3) := by decide +kernel
theorem dX5_status_50 : decode cX5_status 50 = .ok (.goto (-18), 3) := by decide +kernel
theorem dX5_status_53 : decode cX5_status 53 = .ok (.iload_n 2, 1) := by decide +kernel
theorem dX5_status_54 : decode cX5_status 54 = .ok (.ireturn, 1) := by decide +kernel
theorem dX5_found_0 : decode cX5_found 0 = .ok (.ldc 55, 2) := by decide +kernel
theorem dX5_found_2 : decode cX5_found 2 = .ok (.iload_n 1, 1) := by decide +kernel
theorem dX5_found_3 : decode cX5_found 3 = .ok (.isub, 1) := by decide +kernel
theorem dX5_found_4 : decode cX5_found 4 = .ok (.istore_n 2, 1) := by decide +kernel
theorem dX5_found_5 : decode cX5_found 5 = .ok (.iload_n 2, 1) := by decide +kernel
theorem dX5_found_6 : decode cX5_found 6 = .ok (.ifCond .lt 19, 3) := by decide +kernel
theorem dX5_found_9 : decode cX5_found 9 = .ok (.iload_n 2, 1) := by decide +kernel
theorem dX5_found_10 : decode cX5_found 10 = .ok (.bipush 7, 2) := by decide +kernel
theorem dX5_found_12 : decode cX5_found 12 = .ok (.if_icmp .ge 13, 3) := by decide +kernel
theorem dX5_found_15 : decode cX5_found 15 = .ok (.aload_n 0, 1) := by decide +kernel
theorem dX5_found_16 : decode cX5_found 16 = .ok (.getfield 46, 3) := by decide +kernel
theorem dX5_found_19 : decode cX5_found 19 = .ok (.iload_n 2, 1) := by decide +kernel
theorem dX5_found_20 : decode cX5_found 20 = .ok (.dup2, 1) := by decide +kernel
theorem dX5_found_21 : decode cX5_found 21 = .ok (.iaload, 1) := by decide +kernel
theorem dX5_found_22 : decode cX5_found 22 = .ok (.iconst 1, 1) := by decide +kernel
theorem dX5_found_23 : decode cX5_found 23 = .ok (.iadd, 1) := by decide +kernel
theorem dX5_found_24 : decode cX5_found 24 = .ok (.iastore, 1) := by decide +kernel
theorem dX5_found_25 : decode cX5_found 25 = .ok (.iload_n 1, 1) := by decide +kernel
theorem dX5_found_26 : decode cX5_found 26 = .ok (.ireturn, 1) := by decide +kernel
theorem dX5_isOutside_0 : decode cX5_isOutside 0 = .ok (.iload_n 0, 1) := by decide +kernel
theorem dX5_isOutside_1 : decode cX5_isOutside 1 = .ok (.iload_n 1, 1) := by decide +kernel
theorem dX5_isOutside_2 : decode cX5_isOutside 2 = .ok (.if_icmp .lt 8, 3) := by decide +kernel
theorem dX5_isOutside_5 : decode cX5_isOutside 5 = .ok (.iload_n 0, 1) := by decide +kernel
theorem dX5_isOutside_6 : decode cX5_isOutside 6 = .ok (.iload_n 2, 1) := by decide +kernel
theorem dX5_isOutside_7 : decode cX5_isOutside 7 = .ok (.if_icmp .le 7, 3) := by decide +kernel
theorem dX5_isOutside_10 : decode cX5_isOutside 10 = .ok (.iconst 1, 1) := by decide +kernel
theorem dX5_isOutside_11 : decode cX5_isOutside 11 = .ok (.goto 4, 3) := by decide +kernel
theorem dX5_isOutside_14 : decode cX5_isOutside 14 = .ok (.iconst 0, 1) := by decide +kernel
theorem dX5_isOutside_15 : decode cX5_isOutside 15 = .ok (.ireturn, 1) := by decide +kernel
theorem dX5_isNoSubject_0 : decode cX5_isNoSubject 0 = .ok (.iload_n 0, 1) := by decide +kernel
theorem dX5_isNoSubject_1 : decode cX5_isNoSubject 1 = .ok (.iconst 0, 1) := by decide +kernel
theorem dX5_isNoSubject_2 : decode cX5_isNoSubject 2 = .ok (.iconst 5, 1) := by decide +kernel
theorem dX5_isNoSubject_3 : decode cX5_isNoSubject 3 = .ok (.invokestatic 51, 3) := by decide +kernel
theorem dX5_isNoSubject_6 : decode cX5_isNoSubject 6 = .ok (.ireturn, 1) := by decide +kernel
theorem dX5_isNoSheet_0 : decode cX5_isNoSheet 0 = .ok (.iload_n 0, 1) := by decide +kernel
theorem dX5_isNoSheet_1 : decode cX5_isNoSheet 1 = .ok (.iconst 0, 1) := by decide +kernel
theorem dX5_isNoSheet_2 : decode cX5_isNoSheet 2 = .ok (.iconst 3, 1) := by decide +kernel
theorem dX5_isNoSheet_3 : decode cX5_isNoSheet 3 = .ok (.invokestatic 51, 3) := by decide +kernel
theorem dX5_isNoSheet_6 : decode cX5_isNoSheet 6 = .ok (.ireturn, 1) := by decide +kernel
theorem dX5_isNoPair_0 : decode cX5_isNoPair 0 = .ok (.aload_n 0, 1) := by decide +kernel
theorem dX5_isNoPair_1 : decode cX5_isNoPair 1 = .ok (.getfield 12, 3) := by decide +kernel
theorem dX5_isNoPair_4 : decode cX5_isNoPair 4 = .ok (.iload_n 1, 1) := by decide +kernel
theorem dX5_isNoPair_5 : decode cX5_isNoPair 5 = .ok (.invokevirtual 68, 3) := by decide +kernel
theorem dX5_isNoPair_8 : decode cX5_isNoPair 8 = .ok (.ifCond .eq 19, 3) := by decide +kernel
theorem dX5_isNoPair_11 : decode cX5_isNoPair 11 = .ok (.aload_n 0, 1) := by decide +kernel
theorem dX5_isNoPair_12 : decode cX5_isNoPair 12 = .ok (.getfield 12, 3) := by decide +kernel
theorem dX5_isNoPair_15 : decode cX5_isNoPair 15 = .ok (.iload_n 2, 1) := by decide +kernel
theorem dX5_isNoPair_16 : decode cX5_isNoPair 16 = .ok (.invokevirtual 68, 3) := by decide +kernel
theorem dX5_isNoPair_19 : decode cX5_isNoPair 19 = .ok (.ifCond .eq 8, 3) := by decide +kernel
theorem dX5_isNoPair_22 : decode cX5_isNoPair 22 = .ok (.iload_n 1, 1) := by decide +kernel
theorem dX5_isNoPair_23 : decode cX5_isNoPair 23 = .ok (.iload_n 2, 1) := by decide +kernel
theorem dX5_isNoPair_24 : decode cX5_isNoPair 24 = .ok (.if_icmp .ne 7, 3) := by decide +kernel
theorem dX5_isNoPair_27 : decode cX5_isNoPair 27 = .ok (.iconst 1, 1) := by decide +kernel
theorem dX5_isNoPair_28 : decode cX5_isNoPair 28 = .ok (.goto 4, 3) := by decide +kernel
theorem dX5_isNoPair_31 : decode cX5_isNoPair 31 = .ok (.iconst 0, 1) := by decide +kernel
theorem dX5_isNoPair_32 : decode cX5_isNoPair 32 = .ok (.ireturn, 1) := by decide +kernel
theorem dX5_isWrongTrait_0 : decode cX5_isWrongTrait 0 = .ok (.iload_n 1, 1) := by decide +kernel
theorem dX5_isWrongTrait_1 : decode cX5_isWrongTrait 1 = .ok (.iload_n 0, 1) := by decide +kernel
theorem dX5_isWrongTrait_2 : decode cX5_isWrongTrait 2 = .ok (.invokestatic 273, 3) := by decide +kernel
theorem dX5_isWrongTrait_5 : decode cX5_isWrongTrait 5 = .ok (.iload_n 0, 1) := by decide +kernel
theorem dX5_isWrongTrait_6 : decode cX5_isWrongTrait 6 = .ok (.invokestatic 276, 3) := by decide +kernel
theorem dX5_isWrongTrait_9 : decode cX5_isWrongTrait 9 = .ok (.invokestatic 51, 3) := by decide +kernel
theorem dX5_isWrongTrait_12 : decode cX5_isWrongTrait 12 = .ok (.ireturn, 1) := by decide +kernel
theorem dX5_leastTrait_0 : decode cX5_leastTrait 0 = .ok (.iload_n 0, 1) := by decide +kernel
theorem dX5_leastTrait_1 : decode cX5_leastTrait 1 = .ok (.iconst 2, 1) := by decide +kernel
theorem dX5_leastTrait_2 : decode cX5_leastTrait 2 = .ok (.if_icmp .ge 7, 3) := by decide +kernel
theorem dX5_leastTrait_5 : decode cX5_leastTrait 5 = .ok (.iconst 0, 1) := by decide +kernel
theorem dX5_leastTrait_6 : decode cX5_leastTrait 6 = .ok (.goto 5, 3) := by decide +kernel
theorem dX5_leastTrait_9 : decode cX5_leastTrait 9 = .ok (.bipush (-9), 2) := by decide +kernel
theorem dX5_leastTrait_11 : decode cX5_leastTrait 11 = .ok (.ireturn, 1) := by decide +kernel
theorem dX5_mostTrait_0 : decode cX5_mostTrait 0 = .ok (.iload_n 0, 1) := by decide +kernel
theorem dX5_mostTrait_1 : decode cX5_mostTrait 1 = .ok (.ifCond .ne 6, 3) := by decide +kernel
theorem dX5_mostTrait_4 : decode cX5_mostTrait 4 = .ok (.bipush 6, 2) := by decide +kernel
theorem dX5_mostTrait_6 : decode cX5_mostTrait 6 = .ok (.ireturn, 1) := by decide +kernel
theorem dX5_mostTrait_7 : decode cX5_mostTrait 7 = .ok (.iload_n 0, 1) := by decide +kernel
theorem dX5_mostTrait_8 : decode cX5_mostTrait 8 = .ok (.iconst 1, 1) := by decide +kernel
theorem dX5_mostTrait_9 : decode cX5_mostTrait 9 = .ok (.if_icmp .ne 8, 3) := by decide +kernel
theorem dX5_mostTrait_12 : decode cX5_mostTrait 12 = .ok (.bipush 9, 2) := by decide +kernel
theorem dX5_mostTrait_14 : decode cX5_mostTrait 14 = .ok (.goto 5, 3) := by decide +kernel
theorem dX5_mostTrait_17 : decode cX5_mostTrait 17 = .ok (.bipush 9, 2) := by decide +kernel
theorem dX5_mostTrait_19 : decode cX5_mostTrait 19 = .ok (.ireturn, 1) := by decide +kernel
theorem dX5_lackOfSheet_0 : decode cX5_lackOfSheet 0 = .ok (.iload_n 1, 1) := by decide +kernel
theorem dX5_lackOfSheet_1 : decode cX5_lackOfSheet 1 = .ok (.invokestatic 233, 3) := by decide +kernel
theorem dX5_lackOfSheet_4 : decode cX5_lackOfSheet 4 = .ok (.ifCond .eq 6, 3) := by decide +kernel
theorem dX5_lackOfSheet_7 : decode cX5_lackOfSheet 7 = .ok (.ldc 55, 2) := by decide +kernel
theorem dX5_lackOfSheet_9 : decode cX5_lackOfSheet 9 = .ok (.ireturn, 1) := by decide +kernel
theorem dX5_lackOfSheet_10 : decode cX5_lackOfSheet 10 = .ok (.aload_n 0, 1) := by decide +kernel
theorem dX5_lackOfSheet_11 : decode cX5_lackOfSheet 11 = .ok (.getfield 42, 3) := by decide +kernel
theorem dX5_lackOfSheet_14 : decode cX5_lackOfSheet 14 = .ok (.iload_n 1, 1) := by decide +kernel
theorem dX5_lackOfSheet_15 : decode cX5_lackOfSheet 15 = .ok (.aaload, 1) := by decide +kernel
theorem dX5_lackOfSheet_16 : decode cX5_lackOfSheet 16 = .ok (.invokevirtual 249, 3) := by decide +kernel
theorem dX5_lackOfSheet_19 : decode cX5_lackOfSheet 19 = .ok (.ifCond .eq 8, 3) := by decide +kernel
theorem dX5_lackOfSheet_22 : decode cX5_lackOfSheet 22 = .ok (.ldc 226, 2) := by decide +kernel
theorem dX5_lackOfSheet_24 : decode cX5_lackOfSheet 24 = .ok (.goto 4, 3) := by decide +kernel
theorem dX5_lackOfSheet_27 : decode cX5_lackOfSheet 27 = .ok (.iconst 0, 1) := by decide +kernel
theorem dX5_lackOfSheet_28 : decode cX5_lackOfSheet 28 = .ok (.ireturn, 1) := by decide +kernel
theorem dX5_lackOfFit_0 : decode cX5_lackOfFit 0 = .ok (.aload_n 0, 1) := by decide +kernel
theorem dX5_lackOfFit_1 : decode cX5_lackOfFit 1 = .ok (.iload_n 1, 1) := by decide +kernel
theorem dX5_lackOfFit_2 : decode cX5_lackOfFit 2 = .ok (.invokevirtual 240, 3) := by decide +kernel
theorem dX5_lackOfFit_5 : decode cX5_lackOfFit 5 = .ok (.istore_n 3, 1) := by decide +kernel
theorem dX5_lackOfFit_6 : decode cX5_lackOfFit 6 = .ok (.iload_n 3, 1) := by decide +kernel
theorem dX5_lackOfFit_7 : decode cX5_lackOfFit 7 = .ok (.ifCond .ne 17, 3) := by decide +kernel
theorem dX5_lackOfFit_10 : decode cX5_lackOfFit 10 = .ok (.aload_n 0, 1) := by decide +kernel
theorem dX5_lackOfFit_11 : decode cX5_lackOfFit 11 = .ok (.getfield 12, 3) := by decide +kernel
theorem dX5_lackOfFit_14 : decode cX5_lackOfFit 14 = .ok (.iload_n 2, 1) := by decide +kernel
theorem dX5_lackOfFit_15 : decode cX5_lackOfFit 15 = .ok (.invokevirtual 68, 3) := by decide +kernel
theorem dX5_lackOfFit_18 : decode cX5_lackOfFit 18 = .ok (.ifCond .ne 6, 3) := by decide +kernel
theorem dX5_lackOfFit_21 : decode cX5_lackOfFit 21 = .ok (.ldc 55, 2) := by decide +kernel
theorem dX5_lackOfFit_23 : decode cX5_lackOfFit 23 = .ok (.ireturn, 1) := by decide +kernel
theorem dX5_lackOfFit_24 : decode cX5_lackOfFit 24 = .ok (.iload_n 3, 1) := by decide +kernel
theorem dX5_lackOfFit_25 : decode cX5_lackOfFit 25 = .ok (.ireturn, 1) := by decide +kernel
theorem dX5_gain_0 : decode cX5_gain 0 = .ok (.aload_n 0, 1) := by decide +kernel
theorem dX5_gain_1 : decode cX5_gain 1 = .ok (.getfield 16, 3) := by decide +kernel
theorem dX5_gain_4 : decode cX5_gain 4 = .ok (.aload_n 0, 1) := by decide +kernel
theorem dX5_gain_5 : decode cX5_gain 5 = .ok (.getfield 12, 3) := by decide +kernel
theorem dX5_gain_8 : decode cX5_gain 8 = .ok (.invokevirtual 150, 3) := by decide +kernel
theorem dX5_gain_11 : decode cX5_gain 11 = .ok (.aload_n 0, 1) := by decide +kernel
theorem dX5_gain_12 : decode cX5_gain 12 = .ok (.getfield 16, 3) := by decide +kernel
theorem dX5_gain_15 : decode cX5_gain 15 = .ok (.iload_n 1, 1) := by decide +kernel
theorem dX5_gain_16 : decode cX5_gain 16 = .ok (.iload_n 2, 1) := by decide +kernel
theorem dX5_gain_17 : decode cX5_gain 17 = .ok (.iload_n 3, 1) := by decide +kernel
theorem dX5_gain_18 : decode cX5_gain 18 = .ok (.invokevirtual 172, 3) := by decide +kernel
theorem dX5_gain_21 : decode cX5_gain 21 = .ok (.ireturn, 1) := by decide +kernel
theorem dX5_gainAs_0 : decode cX5_gainAs 0 = .ok (.aload_n 0, 1) := by decide +kernel
theorem dX5_gainAs_1 : decode cX5_gainAs 1 = .ok (.getfield 16, 3) := by decide +kernel
theorem dX5_gainAs_4 : decode cX5_gainAs 4 = .ok (.aload_n 0, 1) := by decide +kernel
theorem dX5_gainAs_5 : decode cX5_gainAs 5 = .ok (.getfield 12, 3) := by decide +kernel
theorem dX5_gainAs_8 : decode cX5_gainAs 8 = .ok (.invokevirtual 150, 3) := by decide +kernel
theorem dX5_gainAs_11 : decode cX5_gainAs 11 = .ok (.aload_n 0, 1) := by decide +kernel
theorem dX5_gainAs_12 : decode cX5_gainAs 12 = .ok (.getfield 16, 3) := by decide +kernel
theorem dX5_gainAs_15 : decode cX5_gainAs 15 = .ok (.iload_n 1, 1) := by decide +kernel
theorem dX5_gainAs_16 : decode cX5_gainAs 16 = .ok (.iload_n 3, 1) := by decide +kernel
theorem dX5_gainAs_17 : decode cX5_gainAs 17 = .ok (.iload 4, 2) := by decide +kernel
theorem dX5_gainAs_19 : decode cX5_gainAs 19 = .ok (.invokevirtual 83, 3) := by decide +kernel
theorem dX5_gainAs_22 : decode cX5_gainAs 22 = .ok (.aload_n 0, 1) := by decide +kernel
theorem dX5_gainAs_23 : decode cX5_gainAs 23 = .ok (.getfield 16, 3) := by decide +kernel
theorem dX5_gainAs_26 : decode cX5_gainAs 26 = .ok (.iload_n 1, 1) := by decide +kernel
theorem dX5_gainAs_27 : decode cX5_gainAs 27 = .ok (.iload_n 2, 1) := by decide +kernel
theorem dX5_gainAs_28 : decode cX5_gainAs 28 = .ok (.iload 5, 2) := by decide +kernel
theorem dX5_gainAs_30 : decode cX5_gainAs 30 = .ok (.invokevirtual 172, 3) := by decide +kernel
theorem dX5_gainAs_33 : decode cX5_gainAs 33 = .ok (.ireturn, 1) := by decide +kernel
theorem dX5_bestTrait_0 : decode cX5_bestTrait 0 = .ok (.iload_n 3, 1) := by decide +kernel
theorem dX5_bestTrait_1 : decode cX5_bestTrait 1 = .ok (.invokestatic 273, 3) := by decide +kernel
theorem dX5_bestTrait_4 : decode cX5_bestTrait 4 = .ok (.istore 5, 2) := by decide +kernel
theorem dX5_bestTrait_6 : decode cX5_bestTrait 6 = .ok (.iconst (-1), 1) := by decide +kernel
theorem dX5_bestTrait_7 : decode cX5_bestTrait 7 = .ok (.istore 6, 2) := by decide +kernel
theorem dX5_bestTrait_9 : decode cX5_bestTrait 9 = .ok (.iload_n 3, 1) := by decide +kernel
theorem dX5_bestTrait_10 : decode cX5_bestTrait 10 = .ok (.invokestatic 273, 3) := by decide +kernel
theorem dX5_bestTrait_13 : decode cX5_bestTrait 13 = .ok (.istore 7, 2) := by decide +kernel
theorem dX5_bestTrait_15 : decode cX5_bestTrait 15 = .ok (.iload 7, 2) := by decide +kernel
theorem dX5_bestTrait_17 : decode cX5_bestTrait 17 = .ok (.iload_n 3, 1) := by decide +kernel
theorem dX5_bestTrait_18 : decode cX5_bestTrait 18 = .ok (.invokestatic 276, 3) := by decide +kernel
theorem dX5_bestTrait_21 : decode cX5_bestTrait 21 = .ok (.if_icmp .gt 37, 3) := by decide +kernel
theorem dX5_bestTrait_24 : decode cX5_bestTrait 24 = .ok (.aload_n 0, 1) := by decide +kernel
theorem dX5_bestTrait_25 : decode cX5_bestTrait 25 = .ok (.iload_n 1, 1) := by decide +kernel
theorem dX5_bestTrait_26 : decode cX5_bestTrait 26 = .ok (.iload_n 2, 1) := by decide +kernel
theorem dX5_bestTrait_27 : decode cX5_bestTrait 27 = .ok (.iload_n 3, 1) := by decide +kernel
theorem dX5_bestTrait_28 : decode cX5_bestTrait 28 = .ok (.iload 7, 2) := by decide +kernel
theorem dX5_bestTrait_30 : decode cX5_bestTrait 30 = .ok (.iload 4, 2) := by decide +kernel
theorem dX5_bestTrait_32 : decode cX5_bestTrait 32 = .ok (.invokevirtual 188, 3) := by decide +kernel
theorem dX5_bestTrait_35 : decode cX5_bestTrait 35 = .ok (.istore 8, 2) := by decide +kernel
theorem dX5_bestTrait_37 : decode cX5_bestTrait 37 = .ok (.iload 8, 2) := by decide +kernel
theorem dX5_bestTrait_39 : decode cX5_bestTrait 39 = .ok (.iload 6, 2) := by decide +kernel
theorem dX5_bestTrait_41 : decode cX5_bestTrait 41 = .ok (.if_icmp .le 11, 3) := by decide +kernel
theorem dX5_bestTrait_44 : decode cX5_bestTrait 44 = .ok (.iload 8, 2) := by decide +kernel
theorem dX5_bestTrait_46 : decode cX5_bestTrait 46 = .ok (.istore 6, 2) := by decide +kernel
theorem dX5_bestTrait_48 : decode cX5_bestTrait 48 = .ok (.iload 7, 2) := by decide +kernel
theorem dX5_bestTrait_50 : decode cX5_bestTrait 50 = .ok (.istore 5, 2) := by decide +kernel
theorem dX5_bestTrait_52 : decode cX5_bestTrait 52 = .ok (.iinc 7 1, 3) := by decide +kernel
theorem dX5_bestTrait_55 : decode cX5_bestTrait 55 = .ok (.goto (-40), 3) := by decide +kernel
theorem dX5_bestTrait_58 : decode cX5_bestTrait 58 = .ok (.iload 5, 2) := by decide +kernel
theorem dX5_bestTrait_60 : decode cX5_bestTrait 60 = .ok (.ireturn, 1) := by decide +kernel
theorem dX5_weighPairs_0 : decode cX5_weighPairs 0 = .ok (.iconst 0, 1) := by decide +kernel
theorem dX5_weighPairs_1 : decode cX5_weighPairs 1 = .ok (.istore_n 2, 1) := by decide +kernel
theorem dX5_weighPairs_2 : decode cX5_weighPairs 2 = .ok (.iload_n 2, 1) := by decide +kernel
theorem dX5_weighPairs_3 : decode cX5_weighPairs 3 = .ok (.aload_n 0, 1) := by decide +kernel
theorem dX5_weighPairs_4 : decode cX5_weighPairs 4 = .ok (.getfield 12, 3) := by decide +kernel
theorem dX5_weighPairs_7 : decode cX5_weighPairs 7 = .ok (.getfield 169, 3) := by decide +kernel
theorem dX5_weighPairs_10 : decode cX5_weighPairs 10 = .ok (.if_icmp .ge 46, 3) := by decide +kernel
theorem dX5_weighPairs_13 : decode cX5_weighPairs 13 = .ok (.iload_n 2, 1) := by decide +kernel
theorem dX5_weighPairs_14 : decode cX5_weighPairs 14 = .ok (.iconst 1, 1) := by decide +kernel
theorem dX5_weighPairs_15 : decode cX5_weighPairs 15 = .ok (.iadd, 1) := by decide +kernel
theorem dX5_weighPairs_16 : decode cX5_weighPairs 16 = .ok (.istore_n 3, 1) := by decide +kernel
theorem dX5_weighPairs_17 : decode cX5_weighPairs 17 = .ok (.iload_n 3, 1) := by decide +kernel
theorem dX5_weighPairs_18 : decode cX5_weighPairs 18 = .ok (.aload_n 0, 1) := by decide +kernel
theorem dX5_weighPairs_19 : decode cX5_weighPairs 19 = .ok (.getfield 12, 3) := by decide +kernel
theorem dX5_weighPairs_22 : decode cX5_weighPairs 22 = .ok (.getfield 169, 3) := by decide +kernel
theorem dX5_weighPairs_25 : decode cX5_weighPairs 25 = .ok (.if_icmp .ge 25, 3) := by decide +kernel
theorem dX5_weighPairs_28 : decode cX5_weighPairs 28 = .ok (.aload_n 0, 1) := by decide +kernel
theorem dX5_weighPairs_29 : decode cX5_weighPairs 29 = .ok (.getfield 36, 3) := by decide +kernel
theorem dX5_weighPairs_32 : decode cX5_weighPairs 32 = .ok (.iload_n 2, 1) := by decide +kernel
theorem dX5_weighPairs_33 : decode cX5_weighPairs 33 = .ok (.iload_n 3, 1) := by decide +kernel
theorem dX5_weighPairs_34 : decode cX5_weighPairs 34 = .ok (.aload_n 0, 1) := by decide +kernel
theorem dX5_weighPairs_35 : decode cX5_weighPairs 35 = .ok (.iload_n 2, 1) := by decide +kernel
theorem dX5_weighPairs_36 : decode cX5_weighPairs 36 = .ok (.iload_n 3, 1) := by decide +kernel
theorem dX5_weighPairs_37 : decode cX5_weighPairs 37 = .ok (.iload_n 1, 1) := by decide +kernel
theorem dX5_weighPairs_38 : decode cX5_weighPairs 38 = .ok (.invokevirtual 166, 3) := by decide +kernel
theorem dX5_weighPairs_41 : decode cX5_weighPairs 41 = .ok (.invokevirtual 279, 3) := by decide +kernel
theorem dX5_weighPairs_44 : decode cX5_weighPairs 44 = .ok (.iinc 3 1, 3) := by decide +kernel
theorem dX5_weighPairs_47 : decode cX5_weighPairs 47 = .ok (.goto (-30), 3) := by decide +kernel
theorem dX5_weighPairs_50 : decode cX5_weighPairs 50 = .ok (.iinc 2 1, 3) := by decide +kernel
theorem dX5_weighPairs_53 : decode cX5_weighPairs 53 = .ok (.goto (-51), 3) := by decide +kernel
theorem dX5_weighPairs_56 : decode cX5_weighPairs 56 = .ok (.aload_n 0, 1) := by decide +kernel
theorem dX5_weighPairs_57 : decode cX5_weighPairs 57 = .ok (.getfield 36, 3) := by decide +kernel
theorem dX5_weighPairs_60 : decode cX5_weighPairs 60 = .ok (.aload_n 0, 1) := by decide +kernel
theorem dX5_weighPairs_61 : decode cX5_weighPairs 61 = .ok (.getfield 12, 3) := by decide +kernel
theorem dX5_weighPairs_64 : decode cX5_weighPairs 64 = .ok (.getfield 169, 3) := by decide +kernel
theorem dX5_weighPairs_67 : decode cX5_weighPairs 67 = .ok (.invokevirtual 282, 3) := by decide +kernel
theorem dX5_weighPairs_70 : decode cX5_weighPairs 70 = .ok (.return_, 1) := by decide +kernel
theorem dX5_isAsTold_0 : decode cX5_isAsTold 0 = .ok (.aload_n 0, 1) := by decide +kernel
theorem dX5_isAsTold_1 : decode cX5_isAsTold 1 = .ok (.getfield 16, 3) := by decide +kernel
theorem dX5_isAsTold_4 : decode cX5_isAsTold 4 = .ok (.aload_n 0, 1) := by decide +kernel
theorem dX5_isAsTold_5 : decode cX5_isAsTold 5 = .ok (.getfield 12, 3) := by decide +kernel
theorem dX5_isAsTold_8 : decode cX5_isAsTold 8 = .ok (.invokevirtual 150, 3) := by decide +kernel
theorem dX5_isAsTold_11 : decode cX5_isAsTold 11 = .ok (.aload_n 0, 1) := by decide +kernel
theorem dX5_isAsTold_12 : decode cX5_isAsTold 12 = .ok (.getfield 16, 3) := by decide +kernel
theorem dX5_isAsTold_15 : decode cX5_isAsTold 15 = .ok (.iload_n 2, 1) := by decide +kernel
theorem dX5_isAsTold_16 : decode cX5_isAsTold 16 = .ok (.iload_n 3, 1) := by decide +kernel
theorem dX5_isAsTold_17 : decode cX5_isAsTold 17 = .ok (.iload 4, 2) := by decide +kernel
theorem dX5_isAsTold_19 : decode cX5_isAsTold 19 = .ok (.invokevirtual 83, 3) := by decide +kernel
theorem dX5_isAsTold_22 : decode cX5_isAsTold 22 = .ok (.iconst 0, 1) := by decide +kernel
theorem dX5_isAsTold_23 : decode cX5_isAsTold 23 = .ok (.istore 5, 2) := by decide +kernel
theorem dX5_isAsTold_25 : decode cX5_isAsTold 25 = .ok (.iload 5, 2) := by decide +kernel
theorem dX5_isAsTold_27 : decode cX5_isAsTold 27 = .ok (.aload_n 1, 1) := by decide +kernel
theorem dX5_isAsTold_28 : decode cX5_isAsTold 28 = .ok (.getfield 243, 3) := by decide +kernel
theorem dX5_isAsTold_31 : decode cX5_isAsTold 31 = .ok (.if_icmp .ge 47, 3) := by decide +kernel
theorem dX5_isAsTold_34 : decode cX5_isAsTold 34 = .ok (.aload_n 1, 1) := by decide +kernel
theorem dX5_isAsTold_35 : decode cX5_isAsTold 35 = .ok (.getfield 258, 3) := by decide +kernel
theorem dX5_isAsTold_38 : decode cX5_isAsTold 38 = .ok (.iload 5, 2) := by decide +kernel
theorem dX5_isAsTold_40 : decode cX5_isAsTold 40 = .ok (.iaload, 1) := by decide +kernel
theorem dX5_isAsTold_41 : decode cX5_isAsTold 41 = .ok (.iconst (-1), 1) := by decide +kernel
theorem dX5_isAsTold_42 : decode cX5_isAsTold 42 = .ok (.if_icmp .eq 22, 3) := by decide +kernel
theorem dX5_isAsTold_45 : decode cX5_isAsTold 45 = .ok (.aload_n 1, 1) := by decide +kernel
theorem dX5_isAsTold_46 : decode cX5_isAsTold 46 = .ok (.getfield 258, 3) := by decide +kernel
theorem dX5_isAsTold_49 : decode cX5_isAsTold 49 = .ok (.iload 5, 2) := by decide +kernel
theorem dX5_isAsTold_51 : decode cX5_isAsTold 51 = .ok (.iaload, 1) := by decide +kernel
theorem dX5_isAsTold_52 : decode cX5_isAsTold 52 = .ok (.aload_n 0, 1) := by decide +kernel
theorem dX5_isAsTold_53 : decode cX5_isAsTold 53 = .ok (.getfield 16, 3) := by decide +kernel
theorem dX5_isAsTold_56 : decode cX5_isAsTold 56 = .ok (.getfield 135, 3) := by decide +kernel
theorem dX5_isAsTold_59 : decode cX5_isAsTold 59 = .ok (.if_icmp .eq 5, 3) := by decide +kernel
theorem dX5_isAsTold_62 : decode cX5_isAsTold 62 = .ok (.iconst 0, 1) := by decide +kernel
theorem dX5_isAsTold_63 : decode cX5_isAsTold 63 = .ok (.ireturn, 1) := by decide +kernel
theorem dX5_isAsTold_64 : decode cX5_isAsTold 64 = .ok (.aload_n 0, 1) := by decide +kernel
theorem dX5_isAsTold_65 : decode cX5_isAsTold 65 = .ok (.getfield 16, 3) := by decide +kernel
theorem dX5_isAsTold_68 : decode cX5_isAsTold 68 = .ok (.invokevirtual 157, 3) := by decide +kernel
theorem dX5_isAsTold_71 : decode cX5_isAsTold 71 = .ok (.pop, 1) := by decide +kernel
theorem dX5_isAsTold_72 : decode cX5_isAsTold 72 = .ok (.iinc 5 1, 3) := by decide +kernel
theorem dX5_isAsTold_75 : decode cX5_isAsTold 75 = .ok (.goto (-50), 3) := by decide +kernel
theorem dX5_isAsTold_78 : decode cX5_isAsTold 78 = .ok (.iconst 1, 1) := by decide +kernel
theorem dX5_isAsTold_79 : decode cX5_isAsTold 79 = .ok (.ireturn, 1) := by decide +kernel
theorem dX5_pairNumber_0 : decode cX5_pairNumber 0 = .ok (.bipush 8, 2) := by decide +kernel
theorem dX5_pairNumber_2 : decode cX5_pairNumber 2 = .ok (.iload_n 0, 1) := by decide +kernel
theorem dX5_pairNumber_3 : decode cX5_pairNumber 3 = .ok (.imul, 1) := by decide +kernel
theorem dX5_pairNumber_4 : decode cX5_pairNumber 4 = .ok (.iload_n 1, 1) := by decide +kernel
theorem dX5_pairNumber_5 : decode cX5_pairNumber 5 = .ok (.iadd, 1) := by decide +kernel
theorem dX5_pairNumber_6 : decode cX5_pairNumber 6 = .ok (.ireturn, 1) := by decide +kernel
theorem dX5_power_0 : decode cX5_power 0 = .ok (.lconst 1, 1) := by decide +kernel
theorem dX5_power_1 : decode cX5_power 1 = .ok (.lstore_n 3, 1) := by decide +kernel
theorem dX5_power_2 : decode cX5_power 2 = .ok (.iconst 0, 1) := by decide +kernel
theorem dX5_power_3 : decode cX5_power 3 = .ok (.istore 5, 2) := by decide +kernel
theorem dX5_power_5 : decode cX5_power 5 = .ok (.iload 5, 2) := by decide +kernel
theorem dX5_power_7 : decode cX5_power 7 = .ok (.iload_n 2, 1) := by decide +kernel
theorem dX5_power_8 : decode cX5_power 8 = .ok (.if_icmp .ge 13, 3) := by decide +kernel
theorem dX5_power_11 : decode cX5_power 11 = .ok (.lload_n 3, 1) := by decide +kernel
theorem dX5_power_12 : decode cX5_power 12 = .ok (.lload_n 0, 1) := by decide +kernel
theorem dX5_power_13 : decode cX5_power 13 = .ok (.lmul, 1) := by decide +kernel
theorem dX5_power_14 : decode cX5_power 14 = .ok (.lstore_n 3, 1) := by decide +kernel
theorem dX5_power_15 : decode cX5_power 15 = .ok (.iinc 5 1, 3) := by decide +kernel
theorem dX5_power_18 : decode cX5_power 18 = .ok (.goto (-13), 3) := by decide +kernel
theorem dX5_power_21 : decode cX5_power 21 = .ok (.lload_n 3, 1) := by decide +kernel
theorem dX5_power_22 : decode cX5_power 22 = .ok (.lreturn, 1) := by decide +kernel
