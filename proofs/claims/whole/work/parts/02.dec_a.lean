theorem dX0_init_0 : decode cX0_init 0 = .ok (.aload_n 0, 1) := by decide +kernel
theorem dX0_init_1 : decode cX0_init 1 = .ok (.invokespecial 3, 3) := by decide +kernel
theorem dX0_init_4 : decode cX0_init 4 = .ok (.return_, 1) := by decide +kernel
theorem dX0_forget_0 : decode cX0_forget 0 = .ok (.aload_n 0, 1) := by decide +kernel
theorem dX0_forget_1 : decode cX0_forget 1 = .ok (.iconst 0, 1) := by decide +kernel
theorem dX0_forget_2 : decode cX0_forget 2 = .ok (.putfield 9, 3) := by decide +kernel
theorem dX0_forget_5 : decode cX0_forget 5 = .ok (.aload_n 0, 1) := by decide +kernel
theorem dX0_forget_6 : decode cX0_forget 6 = .ok (.iconst 0, 1) := by decide +kernel
theorem dX0_forget_7 : decode cX0_forget 7 = .ok (.putfield 15, 3) := by decide +kernel
theorem dX0_forget_10 : decode cX0_forget 10 = .ok (.return_, 1) := by decide +kernel
theorem dX0_read_0 : decode cX0_read 0 = .ok (.iconst 0, 1) := by decide +kernel
theorem dX0_read_1 : decode cX0_read 1 = .ok (.istore_n 3, 1) := by decide +kernel
theorem dX0_read_2 : decode cX0_read 2 = .ok (.iconst 0, 1) := by decide +kernel
theorem dX0_read_3 : decode cX0_read 3 = .ok (.istore 4, 2) := by decide +kernel
theorem dX0_read_5 : decode cX0_read 5 = .ok (.iconst 0, 1) := by decide +kernel
theorem dX0_read_6 : decode cX0_read 6 = .ok (.istore 5, 2) := by decide +kernel
theorem dX0_read_8 : decode cX0_read 8 = .ok (.iload 5, 2) := by decide +kernel
theorem dX0_read_10 : decode cX0_read 10 = .ok (.bipush 60, 2) := by decide +kernel
theorem dX0_read_12 : decode cX0_read 12 = .ok (.if_icmp .ge 85, 3) := by decide +kernel
theorem dX0_read_15 : decode cX0_read 15 = .ok (.aload_n 1, 1) := by decide +kernel
theorem dX0_read_16 : decode cX0_read 16 = .ok (.invokevirtual 18, 3) := by decide +kernel
theorem dX0_read_19 : decode cX0_read 19 = .ok (.ifCond .ne 78, 3) := by decide +kernel
theorem dX0_read_22 : decode cX0_read 22 = .ok (.aload_n 1, 1) := by decide +kernel
theorem dX0_read_23 : decode cX0_read 23 = .ok (.iconst 0, 1) := by decide +kernel
theorem dX0_read_24 : decode cX0_read 24 = .ok (.iload_n 2, 1) := by decide +kernel
theorem dX0_read_25 : decode cX0_read 25 = .ok (.iconst 1, 1) := by decide +kernel
theorem dX0_read_26 : decode cX0_read 26 = .ok (.isub, 1) := by decide +kernel
theorem dX0_read_27 : decode cX0_read 27 = .ok (.invokevirtual 24, 3) := by decide +kernel
theorem dX0_read_30 : decode cX0_read 30 = .ok (.istore 6, 2) := by decide +kernel
theorem dX0_read_32 : decode cX0_read 32 = .ok (.aload_n 1, 1) := by decide +kernel
theorem dX0_read_33 : decode cX0_read 33 = .ok (.invokevirtual 28, 3) := by decide +kernel
theorem dX0_read_36 : decode cX0_read 36 = .ok (.ifCond .ne 17, 3) := by decide +kernel
theorem dX0_read_39 : decode cX0_read 39 = .ok (.iload_n 3, 1) := by decide +kernel
theorem dX0_read_40 : decode cX0_read 40 = .ok (.iload 6, 2) := by decide +kernel
theorem dX0_read_42 : decode cX0_read 42 = .ok (.ishr, 1) := by decide +kernel
theorem dX0_read_43 : decode cX0_read 43 = .ok (.iconst 1, 1) := by decide +kernel
theorem dX0_read_44 : decode cX0_read 44 = .ok (.iand, 1) := by decide +kernel
theorem dX0_read_45 : decode cX0_read 45 = .ok (.iconst 1, 1) := by decide +kernel
theorem dX0_read_46 : decode cX0_read 46 = .ok (.if_icmp .ne 7, 3) := by decide +kernel
theorem dX0_read_49 : decode cX0_read 49 = .ok (.aload_n 1, 1) := by decide +kernel
theorem dX0_read_50 : decode cX0_read 50 = .ok (.invokevirtual 31, 3) := by decide +kernel
theorem dX0_read_53 : decode cX0_read 53 = .ok (.aload_n 1, 1) := by decide +kernel
theorem dX0_read_54 : decode cX0_read 54 = .ok (.iconst 0, 1) := by decide +kernel
theorem dX0_read_55 : decode cX0_read 55 = .ok (.iconst 1, 1) := by decide +kernel
theorem dX0_read_56 : decode cX0_read 56 = .ok (.invokevirtual 24, 3) := by decide +kernel
theorem dX0_read_59 : decode cX0_read 59 = .ok (.istore 7, 2) := by decide +kernel
theorem dX0_read_61 : decode cX0_read 61 = .ok (.aload_n 1, 1) := by decide +kernel
theorem dX0_read_62 : decode cX0_read 62 = .ok (.bipush 59, 2) := by decide +kernel
theorem dX0_read_64 : decode cX0_read 64 = .ok (.invokevirtual 34, 3) := by decide +kernel
theorem dX0_read_67 : decode cX0_read 67 = .ok (.aload_n 1, 1) := by decide +kernel
theorem dX0_read_68 : decode cX0_read 68 = .ok (.invokevirtual 28, 3) := by decide +kernel
theorem dX0_read_71 : decode cX0_read 71 = .ok (.ifCond .ne 20, 3) := by decide +kernel
theorem dX0_read_74 : decode cX0_read 74 = .ok (.iload_n 3, 1) := by decide +kernel
theorem dX0_read_75 : decode cX0_read 75 = .ok (.iconst 1, 1) := by decide +kernel
theorem dX0_read_76 : decode cX0_read 76 = .ok (.iload 6, 2) := by decide +kernel
theorem dX0_read_78 : decode cX0_read 78 = .ok (.ishl, 1) := by decide +kernel
theorem dX0_read_79 : decode cX0_read 79 = .ok (.ior, 1) := by decide +kernel
theorem dX0_read_80 : decode cX0_read 80 = .ok (.istore_n 3, 1) := by decide +kernel
theorem dX0_read_81 : decode cX0_read 81 = .ok (.iload 4, 2) := by decide +kernel
theorem dX0_read_83 : decode cX0_read 83 = .ok (.iload 7, 2) := by decide +kernel
theorem dX0_read_85 : decode cX0_read 85 = .ok (.iload 6, 2) := by decide +kernel
theorem dX0_read_87 : decode cX0_read 87 = .ok (.ishl, 1) := by decide +kernel
theorem dX0_read_88 : decode cX0_read 88 = .ok (.ior, 1) := by decide +kernel
theorem dX0_read_89 : decode cX0_read 89 = .ok (.istore 4, 2) := by decide +kernel
theorem dX0_read_91 : decode cX0_read 91 = .ok (.iinc 5 1, 3) := by decide +kernel
theorem dX0_read_94 : decode cX0_read 94 = .ok (.goto (-86), 3) := by decide +kernel
theorem dX0_read_97 : decode cX0_read 97 = .ok (.aload_n 1, 1) := by decide +kernel
theorem dX0_read_98 : decode cX0_read 98 = .ok (.invokevirtual 28, 3) := by decide +kernel
theorem dX0_read_101 : decode cX0_read 101 = .ok (.ifCond .ne 14, 3) := by decide +kernel
theorem dX0_read_104 : decode cX0_read 104 = .ok (.aload_n 0, 1) := by decide +kernel
theorem dX0_read_105 : decode cX0_read 105 = .ok (.iload_n 3, 1) := by decide +kernel
theorem dX0_read_106 : decode cX0_read 106 = .ok (.putfield 9, 3) := by decide +kernel
theorem dX0_read_109 : decode cX0_read 109 = .ok (.aload_n 0, 1) := by decide +kernel
theorem dX0_read_110 : decode cX0_read 110 = .ok (.iload 4, 2) := by decide +kernel
theorem dX0_read_112 : decode cX0_read 112 = .ok (.putfield 15, 3) := by decide +kernel
theorem dX0_read_115 : decode cX0_read 115 = .ok (.return_, 1) := by decide +kernel
theorem dX0_many_0 : decode cX0_many 0 = .ok (.aload_n 0, 1) := by decide +kernel
theorem dX0_many_1 : decode cX0_many 1 = .ok (.getfield 9, 3) := by decide +kernel
theorem dX0_many_4 : decode cX0_many 4 = .ok (.invokestatic 38, 3) := by decide +kernel
theorem dX0_many_7 : decode cX0_many 7 = .ok (.ireturn, 1) := by decide +kernel
theorem dX0_hasLineOf_0 : decode cX0_hasLineOf 0 = .ok (.aload_n 0, 1) := by decide +kernel
theorem dX0_hasLineOf_1 : decode cX0_hasLineOf 1 = .ok (.getfield 9, 3) := by decide +kernel
theorem dX0_hasLineOf_4 : decode cX0_hasLineOf 4 = .ok (.iload_n 1, 1) := by decide +kernel
theorem dX0_hasLineOf_5 : decode cX0_hasLineOf 5 = .ok (.ishr, 1) := by decide +kernel
theorem dX0_hasLineOf_6 : decode cX0_hasLineOf 6 = .ok (.iconst 1, 1) := by decide +kernel
theorem dX0_hasLineOf_7 : decode cX0_hasLineOf 7 = .ok (.iand, 1) := by decide +kernel
theorem dX0_hasLineOf_8 : decode cX0_hasLineOf 8 = .ok (.iconst 1, 1) := by decide +kernel
theorem dX0_hasLineOf_9 : decode cX0_hasLineOf 9 = .ok (.if_icmp .ne 7, 3) := by decide +kernel
theorem dX0_hasLineOf_12 : decode cX0_hasLineOf 12 = .ok (.iconst 1, 1) := by decide +kernel
theorem dX0_hasLineOf_13 : decode cX0_hasLineOf 13 = .ok (.goto 4, 3) := by decide +kernel
theorem dX0_hasLineOf_16 : decode cX0_hasLineOf 16 = .ok (.iconst 0, 1) := by decide +kernel
theorem dX0_hasLineOf_17 : decode cX0_hasLineOf 17 = .ok (.ireturn, 1) := by decide +kernel
theorem dX0_agreesWith_0 : decode cX0_agreesWith 0 = .ok (.iload_n 1, 1) := by decide +kernel
theorem dX0_agreesWith_1 : decode cX0_agreesWith 1 = .ok (.aload_n 0, 1) := by decide +kernel
theorem dX0_agreesWith_2 : decode cX0_agreesWith 2 = .ok (.getfield 9, 3) := by decide +kernel
theorem dX0_agreesWith_5 : decode cX0_agreesWith 5 = .ok (.iand, 1) := by decide +kernel
theorem dX0_agreesWith_6 : decode cX0_agreesWith 6 = .ok (.aload_n 0, 1) := by decide +kernel
theorem dX0_agreesWith_7 : decode cX0_agreesWith 7 = .ok (.getfield 15, 3) := by decide +kernel
theorem dX0_agreesWith_10 : decode cX0_agreesWith 10 = .ok (.if_icmp .ne 7, 3) := by decide +kernel
theorem dX0_agreesWith_13 : decode cX0_agreesWith 13 = .ok (.iconst 1, 1) := by decide +kernel
theorem dX0_agreesWith_14 : decode cX0_agreesWith 14 = .ok (.goto 4, 3) := by decide +kernel
theorem dX0_agreesWith_17 : decode cX0_agreesWith 17 = .ok (.iconst 0, 1) := by decide +kernel
theorem dX0_agreesWith_18 : decode cX0_agreesWith 18 = .ok (.ireturn, 1) := by decide +kernel
theorem dX1_init_0 : decode cX1_init 0 = .ok (.aload_n 0, 1) := by decide +kernel
theorem dX1_init_1 : decode cX1_init 1 = .ok (.invokespecial 3, 3) := by decide +kernel
theorem dX1_init_4 : decode cX1_init 4 = .ok (.aload_n 0, 1) := by decide +kernel
theorem dX1_init_5 : decode cX1_init 5 = .ok (.sipush 1536, 3) := by decide +kernel
theorem dX1_init_8 : decode cX1_init 8 = .ok (.newarray .int, 2) := by decide +kernel
theorem dX1_init_10 : decode cX1_init 10 = .ok (.putfield 11, 3) := by decide +kernel
theorem dX1_init_13 : decode cX1_init 13 = .ok (.aload_n 0, 1) := by decide +kernel
theorem dX1_init_14 : decode cX1_init 14 = .ok (.bipush 40, 2) := by decide +kernel
theorem dX1_init_16 : decode cX1_init 16 = .ok (.newarray .int, 2) := by decide +kernel
theorem dX1_init_18 : decode cX1_init 18 = .ok (.putfield 15, 3) := by decide +kernel
theorem dX1_init_21 : decode cX1_init 21 = .ok (.aload_n 0, 1) := by decide +kernel
theorem dX1_init_22 : decode cX1_init 22 = .ok (.iconst 5, 1) := by decide +kernel
theorem dX1_init_23 : decode cX1_init 23 = .ok (.newarray .int, 2) := by decide +kernel
theorem dX1_init_25 : decode cX1_init 25 = .ok (.putfield 18, 3) := by decide +kernel
theorem dX1_init_28 : decode cX1_init 28 = .ok (.aload_n 0, 1) := by decide +kernel
theorem dX1_init_29 : decode cX1_init 29 = .ok (.aload_n 1, 1) := by decide +kernel
theorem dX1_init_30 : decode cX1_init 30 = .ok (.putfield 21, 3) := by decide +kernel
theorem dX1_init_33 : decode cX1_init 33 = .ok (.return_, 1) := by decide +kernel
theorem dX1_solve_0 : decode cX1_solve 0 = .ok (.aload_n 0, 1) := by decide +kernel
theorem dX1_solve_1 : decode cX1_solve 1 = .ok (.aload_n 1, 1) := by decide +kernel
theorem dX1_solve_2 : decode cX1_solve 2 = .ok (.invokevirtual 25, 3) := by decide +kernel
theorem dX1_solve_5 : decode cX1_solve 5 = .ok (.iconst 0, 1) := by decide +kernel
theorem dX1_solve_6 : decode cX1_solve 6 = .ok (.istore_n 2, 1) := by decide +kernel
theorem dX1_solve_7 : decode cX1_solve 7 = .ok (.iload_n 2, 1) := by decide +kernel
theorem dX1_solve_8 : decode cX1_solve 8 = .ok (.sipush 256, 3) := by decide +kernel
theorem dX1_solve_11 : decode cX1_solve 11 = .ok (.if_icmp .ge 28, 3) := by decide +kernel
theorem dX1_solve_14 : decode cX1_solve 14 = .ok (.aload_n 0, 1) := by decide +kernel
theorem dX1_solve_15 : decode cX1_solve 15 = .ok (.getfield 11, 3) := by decide +kernel
theorem dX1_solve_18 : decode cX1_solve 18 = .ok (.aload_n 0, 1) := by decide +kernel
theorem dX1_solve_19 : decode cX1_solve 19 = .ok (.getfield 21, 3) := by decide +kernel
theorem dX1_solve_22 : decode cX1_solve 22 = .ok (.getfield 29, 3) := by decide +kernel
theorem dX1_solve_25 : decode cX1_solve 25 = .ok (.sipush 256, 3) := by decide +kernel
theorem dX1_solve_28 : decode cX1_solve 28 = .ok (.imul, 1) := by decide +kernel
theorem dX1_solve_29 : decode cX1_solve 29 = .ok (.iload_n 2, 1) := by decide +kernel
theorem dX1_solve_30 : decode cX1_solve 30 = .ok (.iadd, 1) := by decide +kernel
theorem dX1_solve_31 : decode cX1_solve 31 = .ok (.iconst 0, 1) := by decide +kernel
theorem dX1_solve_32 : decode cX1_solve 32 = .ok (.iastore, 1) := by decide +kernel
theorem dX1_solve_33 : decode cX1_solve 33 = .ok (.iinc 2 1, 3) := by decide +kernel
theorem dX1_solve_36 : decode cX1_solve 36 = .ok (.goto (-29), 3) := by decide +kernel
theorem dX1_solve_39 : decode cX1_solve 39 = .ok (.aload_n 0, 1) := by decide +kernel
theorem dX1_solve_40 : decode cX1_solve 40 = .ok (.getfield 21, 3) := by decide +kernel
theorem dX1_solve_43 : decode cX1_solve 43 = .ok (.getfield 29, 3) := by decide +kernel
theorem dX1_solve_46 : decode cX1_solve 46 = .ok (.iconst 1, 1) := by decide +kernel
theorem dX1_solve_47 : decode cX1_solve 47 = .ok (.isub, 1) := by decide +kernel
theorem dX1_solve_48 : decode cX1_solve 48 = .ok (.istore_n 2, 1) := by decide +kernel
theorem dX1_solve_49 : decode cX1_solve 49 = .ok (.iload_n 2, 1) := by decide +kernel
theorem dX1_solve_50 : decode cX1_solve 50 = .ok (.ifCond .lt 56, 3) := by decide +kernel
theorem dX1_solve_53 : decode cX1_solve 53 = .ok (.iconst 0, 1) := by decide +kernel
theorem dX1_solve_54 : decode cX1_solve 54 = .ok (.istore_n 3, 1) := by decide +kernel
theorem dX1_solve_55 : decode cX1_solve 55 = .ok (.iload_n 3, 1) := by decide +kernel
theorem dX1_solve_56 : decode cX1_solve 56 = .ok (.iconst 1, 1) := by decide +kernel
theorem dX1_solve_57 : decode cX1_solve 57 = .ok (.aload_n 0, 1) := by decide +kernel
theorem dX1_solve_58 : decode cX1_solve 58 = .ok (.getfield 21, 3) := by decide +kernel
theorem dX1_solve_61 : decode cX1_solve 61 = .ok (.getfield 35, 3) := by decide +kernel
theorem dX1_solve_64 : decode cX1_solve 64 = .ok (.ishl, 1) := by decide +kernel
theorem dX1_solve_65 : decode cX1_solve 65 = .ok (.if_icmp .ge 35, 3) := by decide +kernel
theorem dX1_solve_68 : decode cX1_solve 68 = .ok (.iload_n 3, 1) := by decide +kernel
theorem dX1_solve_69 : decode cX1_solve 69 = .ok (.invokestatic 38, 3) := by decide +kernel
theorem dX1_solve_72 : decode cX1_solve 72 = .ok (.iload_n 2, 1) := by decide +kernel
theorem dX1_solve_73 : decode cX1_solve 73 = .ok (.if_icmp .gt 21, 3) := by decide +kernel
theorem dX1_solve_76 : decode cX1_solve 76 = .ok (.aload_n 0, 1) := by decide +kernel
theorem dX1_solve_77 : decode cX1_solve 77 = .ok (.getfield 11, 3) := by decide +kernel
theorem dX1_solve_80 : decode cX1_solve 80 = .ok (.iload_n 2, 1) := by decide +kernel
theorem dX1_solve_81 : decode cX1_solve 81 = .ok (.sipush 256, 3) := by decide +kernel
theorem dX1_solve_84 : decode cX1_solve 84 = .ok (.imul, 1) := by decide +kernel
theorem dX1_solve_85 : decode cX1_solve 85 = .ok (.iload_n 3, 1) := by decide +kernel
theorem dX1_solve_86 : decode cX1_solve 86 = .ok (.iadd, 1) := by decide +kernel
theorem dX1_solve_87 : decode cX1_solve 87 = .ok (.aload_n 0, 1) := by decide +kernel
theorem dX1_solve_88 : decode cX1_solve 88 = .ok (.iload_n 2, 1) := by decide +kernel
theorem dX1_solve_89 : decode cX1_solve 89 = .ok (.iload_n 3, 1) := by decide +kernel
theorem dX1_solve_90 : decode cX1_solve 90 = .ok (.invokevirtual 44, 3) := by decide +kernel
theorem dX1_solve_93 : decode cX1_solve 93 = .ok (.iastore, 1) := by decide +kernel
theorem dX1_solve_94 : decode cX1_solve 94 = .ok (.iinc 3 1, 3) := by decide +kernel
theorem dX1_solve_97 : decode cX1_solve 97 = .ok (.goto (-42), 3) := by decide +kernel
theorem dX1_solve_100 : decode cX1_solve 100 = .ok (.iinc 2 (-1), 3) := by decide +kernel
theorem dX1_solve_103 : decode cX1_solve 103 = .ok (.goto (-54), 3) := by decide +kernel
theorem dX1_solve_106 : decode cX1_solve 106 = .ok (.aload_n 0, 1) := by decide +kernel
theorem dX1_solve_107 : decode cX1_solve 107 = .ok (.invokevirtual 48, 3) := by decide +kernel
theorem dX1_solve_110 : decode cX1_solve 110 = .ok (.return_, 1) := by decide +kernel
theorem dX1_measurePaths_0 : decode cX1_measurePaths 0 = .ok (.iconst 0, 1) := by decide +kernel
theorem dX1_measurePaths_1 : decode cX1_measurePaths 1 = .ok (.istore_n 2, 1) := by decide +kernel
theorem dX1_measurePaths_2 : decode cX1_measurePaths 2 = .ok (.iload_n 2, 1) := by decide +kernel
theorem dX1_measurePaths_3 : decode cX1_measurePaths 3 = .ok (.aload_n 0, 1) := by decide +kernel
theorem dX1_measurePaths_4 : decode cX1_measurePaths 4 = .ok (.getfield 21, 3) := by decide +kernel
theorem dX1_measurePaths_7 : decode cX1_measurePaths 7 = .ok (.getfield 29, 3) := by decide +kernel
theorem dX1_measurePaths_10 : decode cX1_measurePaths 10 = .ok (.if_icmp .ge 96, 3) := by decide +kernel
theorem dX1_measurePaths_13 : decode cX1_measurePaths 13 = .ok (.iconst 0, 1) := by decide +kernel
theorem dX1_measurePaths_14 : decode cX1_measurePaths 14 = .ok (.istore_n 3, 1) := by decide +kernel
theorem dX1_measurePaths_15 : decode cX1_measurePaths 15 = .ok (.iload_n 3, 1) := by decide +kernel
theorem dX1_measurePaths_16 : decode cX1_measurePaths 16 = .ok (.aload_n 0, 1) := by decide +kernel
theorem dX1_measurePaths_17 : decode cX1_measurePaths 17 = .ok (.getfield 21, 3) := by decide +kernel
theorem dX1_measurePaths_20 : decode cX1_measurePaths 20 = .ok (.getfield 35, 3) := by decide +kernel
theorem dX1_measurePaths_23 : decode cX1_measurePaths 23 = .ok (.if_icmp .ge 77, 3) := by decide +kernel
theorem dX1_measurePaths_26 : decode cX1_measurePaths 26 = .ok (.aload_n 1, 1) := by decide +kernel
theorem dX1_measurePaths_27 : decode cX1_measurePaths 27 = .ok (.iload_n 3, 1) := by decide +kernel
theorem dX1_measurePaths_28 : decode cX1_measurePaths 28 = .ok (.invokevirtual 51, 3) := by decide +kernel
theorem dX1_measurePaths_31 : decode cX1_measurePaths 31 = .ok (.istore 4, 2) := by decide +kernel
theorem dX1_measurePaths_33 : decode cX1_measurePaths 33 = .ok (.aload_n 1, 1) := by decide +kernel
theorem dX1_measurePaths_34 : decode cX1_measurePaths 34 = .ok (.iload_n 3, 1) := by decide +kernel
theorem dX1_measurePaths_35 : decode cX1_measurePaths 35 = .ok (.invokevirtual 56, 3) := by decide +kernel
theorem dX1_measurePaths_38 : decode cX1_measurePaths 38 = .ok (.ifCond .eq 22, 3) := by decide +kernel
theorem dX1_measurePaths_41 : decode cX1_measurePaths 41 = .ok (.aload_n 1, 1) := by decide +kernel
theorem dX1_measurePaths_42 : decode cX1_measurePaths 42 = .ok (.iload_n 2, 1) := by decide +kernel
theorem dX1_measurePaths_43 : decode cX1_measurePaths 43 = .ok (.aload_n 1, 1) := by decide +kernel
theorem dX1_measurePaths_44 : decode cX1_measurePaths 44 = .ok (.iload_n 3, 1) := by decide +kernel
theorem dX1_measurePaths_45 : decode cX1_measurePaths 45 = .ok (.invokevirtual 60, 3) := by decide +kernel
theorem dX1_measurePaths_48 : decode cX1_measurePaths 48 = .ok (.iload 4, 2) := by decide +kernel
theorem dX1_measurePaths_50 : decode cX1_measurePaths 50 = .ok (.invokevirtual 63, 3) := by decide +kernel
theorem dX1_measurePaths_53 : decode cX1_measurePaths 53 = .ok (.ifCond .eq 7, 3) := by decide +kernel
theorem dX1_measurePaths_56 : decode cX1_measurePaths 56 = .ok (.iconst 1, 1) := by decide +kernel
theorem dX1_measurePaths_57 : decode cX1_measurePaths 57 = .ok (.goto 4, 3) := by decide +kernel
theorem dX1_measurePaths_60 : decode cX1_measurePaths 60 = .ok (.iconst 0, 1) := by decide +kernel
theorem dX1_measurePaths_61 : decode cX1_measurePaths 61 = .ok (.istore 5, 2) := by decide +kernel
theorem dX1_measurePaths_63 : decode cX1_measurePaths 63 = .ok (.aload_n 0, 1) := by decide +kernel
theorem dX1_measurePaths_64 : decode cX1_measurePaths 64 = .ok (.getfield 15, 3) := by decide +kernel
theorem dX1_measurePaths_67 : decode cX1_measurePaths 67 = .ok (.iload_n 2, 1) := by decide +kernel
theorem dX1_measurePaths_68 : decode cX1_measurePaths 68 = .ok (.bipush 8, 2) := by decide +kernel
theorem dX1_measurePaths_70 : decode cX1_measurePaths 70 = .ok (.imul, 1) := by decide +kernel
theorem dX1_measurePaths_71 : decode cX1_measurePaths 71 = .ok (.iload_n 3, 1) := by decide +kernel
theorem dX1_measurePaths_72 : decode cX1_measurePaths 72 = .ok (.iadd, 1) := by decide +kernel
theorem dX1_measurePaths_73 : decode cX1_measurePaths 73 = .ok (.iload 5, 2) := by decide +kernel
theorem dX1_measurePaths_75 : decode cX1_measurePaths 75 = .ok (.ifCond .eq 17, 3) := by decide +kernel
theorem dX1_measurePaths_78 : decode cX1_measurePaths 78 = .ok (.aload_n 1, 1) := by decide +kernel
theorem dX1_measurePaths_79 : decode cX1_measurePaths 79 = .ok (.aload_n 1, 1) := by decide +kernel
theorem dX1_measurePaths_80 : decode cX1_measurePaths 80 = .ok (.iload_n 2, 1) := by decide +kernel
theorem dX1_measurePaths_81 : decode cX1_measurePaths 81 = .ok (.invokevirtual 67, 3) := by decide +kernel
theorem dX1_measurePaths_84 : decode cX1_measurePaths 84 = .ok (.iload 4, 2) := by decide +kernel
theorem dX1_measurePaths_86 : decode cX1_measurePaths 86 = .ok (.invokevirtual 70, 3) := by decide +kernel
theorem dX1_measurePaths_89 : decode cX1_measurePaths 89 = .ok (.goto 4, 3) := by decide +kernel
theorem dX1_measurePaths_92 : decode cX1_measurePaths 92 = .ok (.iconst (-1), 1) := by decide +kernel
theorem dX1_measurePaths_93 : decode cX1_measurePaths 93 = .ok (.iastore, 1) := by decide +kernel
theorem dX1_measurePaths_94 : decode cX1_measurePaths 94 = .ok (.iinc 3 1, 3) := by decide +kernel
theorem dX1_measurePaths_97 : decode cX1_measurePaths 97 = .ok (.goto (-82), 3) := by decide +kernel
theorem dX1_measurePaths_100 : decode cX1_measurePaths 100 = .ok (.iinc 2 1, 3) := by decide +kernel
theorem dX1_measurePaths_103 : decode cX1_measurePaths 103 = .ok (.goto (-101), 3) := by decide +kernel
theorem dX1_measurePaths_106 : decode cX1_measurePaths 106 = .ok (.return_, 1) := by decide +kernel
theorem dX1_bestFor_0 : decode cX1_bestFor 0 = .ok (.aload_n 0, 1) := by decide +kernel
theorem dX1_bestFor_1 : decode cX1_bestFor 1 = .ok (.getfield 11, 3) := by decide +kernel
theorem dX1_bestFor_4 : decode cX1_bestFor 4 = .ok (.iload_n 1, 1) := by decide +kernel
theorem dX1_bestFor_5 : decode cX1_bestFor 5 = .ok (.iconst 1, 1) := by decide +kernel
theorem dX1_bestFor_6 : decode cX1_bestFor 6 = .ok (.iadd, 1) := by decide +kernel
theorem dX1_bestFor_7 : decode cX1_bestFor 7 = .ok (.sipush 256, 3) := by decide +kernel
theorem dX1_bestFor_10 : decode cX1_bestFor 10 = .ok (.imul, 1) := by decide +kernel
theorem dX1_bestFor_11 : decode cX1_bestFor 11 = .ok (.iload_n 2, 1) := by decide +kernel
theorem dX1_bestFor_12 : decode cX1_bestFor 12 = .ok (.iadd, 1) := by decide +kernel
theorem dX1_bestFor_13 : decode cX1_bestFor 13 = .ok (.iaload, 1) := by decide +kernel
theorem dX1_bestFor_14 : decode cX1_bestFor 14 = .ok (.istore_n 3, 1) := by decide +kernel
theorem dX1_bestFor_15 : decode cX1_bestFor 15 = .ok (.iconst 0, 1) := by decide +kernel
theorem dX1_bestFor_16 : decode cX1_bestFor 16 = .ok (.istore 4, 2) := by decide +kernel
theorem dX1_bestFor_18 : decode cX1_bestFor 18 = .ok (.iload 4, 2) := by decide +kernel
theorem dX1_bestFor_20 : decode cX1_bestFor 20 = .ok (.aload_n 0, 1) := by decide +kernel
theorem dX1_bestFor_21 : decode cX1_bestFor 21 = .ok (.getfield 21, 3) := by decide +kernel
theorem dX1_bestFor_24 : decode cX1_bestFor 24 = .ok (.getfield 35, 3) := by decide +kernel
theorem dX1_bestFor_27 : decode cX1_bestFor 27 = .ok (.if_icmp .ge 33, 3) := by decide +kernel
theorem dX1_bestFor_30 : decode cX1_bestFor 30 = .ok (.aload_n 0, 1) := by decide +kernel
theorem dX1_bestFor_31 : decode cX1_bestFor 31 = .ok (.iload_n 1, 1) := by decide +kernel
theorem dX1_bestFor_32 : decode cX1_bestFor 32 = .ok (.iload 4, 2) := by decide +kernel
theorem dX1_bestFor_34 : decode cX1_bestFor 34 = .ok (.iload_n 2, 1) := by decide +kernel
theorem dX1_bestFor_35 : decode cX1_bestFor 35 = .ok (.invokevirtual 73, 3) := by decide +kernel
theorem dX1_bestFor_38 : decode cX1_bestFor 38 = .ok (.ifCond .eq 16, 3) := by decide +kernel
theorem dX1_bestFor_41 : decode cX1_bestFor 41 = .ok (.iload_n 3, 1) := by decide +kernel
theorem dX1_bestFor_42 : decode cX1_bestFor 42 = .ok (.aload_n 0, 1) := by decide +kernel
theorem dX1_bestFor_43 : decode cX1_bestFor 43 = .ok (.iload_n 1, 1) := by decide +kernel
theorem dX1_bestFor_44 : decode cX1_bestFor 44 = .ok (.iload 4, 2) := by decide +kernel
theorem dX1_bestFor_46 : decode cX1_bestFor 46 = .ok (.iload_n 2, 1) := by decide +kernel
theorem dX1_bestFor_47 : decode cX1_bestFor 47 = .ok (.invokevirtual 76, 3) := by decide +kernel
theorem dX1_bestFor_50 : decode cX1_bestFor 50 = .ok (.invokestatic 80, 3) := by decide +kernel
theorem dX1_bestFor_53 : decode cX1_bestFor 53 = .ok (.istore_n 3, 1) := by decide +kernel
theorem dX1_bestFor_54 : decode cX1_bestFor 54 = .ok (.iinc 4 1, 3) := by decide +kernel
theorem dX1_bestFor_57 : decode cX1_bestFor 57 = .ok (.goto (-39), 3) := by decide +kernel
theorem dX1_bestFor_60 : decode cX1_bestFor 60 = .ok (.iload_n 3, 1) := by decide +kernel
theorem dX1_bestFor_61 : decode cX1_bestFor 61 = .ok (.ireturn, 1) := by decide +kernel
theorem dX1_isFree_0 : decode cX1_isFree 0 = .ok (.iload_n 3, 1) := by decide +kernel
theorem dX1_isFree_1 : decode cX1_isFree 1 = .ok (.iload_n 2, 1) := by decide +kernel
theorem dX1_isFree_2 : decode cX1_isFree 2 = .ok (.ishr, 1) := by decide +kernel
theorem dX1_isFree_3 : decode cX1_isFree 3 = .ok (.iconst 1, 1) := by decide +kernel
theorem dX1_isFree_4 : decode cX1_isFree 4 = .ok (.iand, 1) := by decide +kernel
theorem dX1_isFree_5 : decode cX1_isFree 5 = .ok (.ifCond .ne 22, 3) := by decide +kernel
theorem dX1_isFree_8 : decode cX1_isFree 8 = .ok (.aload_n 0, 1) := by decide +kernel
theorem dX1_isFree_9 : decode cX1_isFree 9 = .ok (.getfield 15, 3) := by decide +kernel
theorem dX1_isFree_12 : decode cX1_isFree 12 = .ok (.iload_n 1, 1) := by decide +kernel
theorem dX1_isFree_13 : decode cX1_isFree 13 = .ok (.bipush 8, 2) := by decide +kernel
theorem dX1_isFree_15 : decode cX1_isFree 15 = .ok (.imul, 1) := by decide +kernel
theorem dX1_isFree_16 : decode cX1_isFree 16 = .ok (.iload_n 2, 1) := by decide +kernel
theorem dX1_isFree_17 : decode cX1_isFree 17 = .ok (.iadd, 1) := by decide +kernel
theorem dX1_isFree_18 : decode cX1_isFree 18 = .ok (.iaload, 1) := by decide +kernel
theorem dX1_isFree_19 : decode cX1_isFree 19 = .ok (.iconst (-1), 1) := by decide +kernel
theorem dX1_isFree_20 : decode cX1_isFree 20 = .ok (.if_icmp .eq 7, 3) := by decide +kernel
theorem dX1_isFree_23 : decode cX1_isFree 23 = .ok (.iconst 1, 1) := by decide +kernel
theorem dX1_isFree_24 : decode cX1_isFree 24 = .ok (.goto 4, 3) := by decide +kernel
theorem dX1_isFree_27 : decode cX1_isFree 27 = .ok (.iconst 0, 1) := by decide +kernel
theorem dX1_isFree_28 : decode cX1_isFree 28 = .ok (.ireturn, 1) := by decide +kernel
theorem dX1_worth_0 : decode cX1_worth 0 = .ok (.bipush 100, 2) := by decide +kernel
theorem dX1_worth_2 : decode cX1_worth 2 = .ok (.aload_n 0, 1) := by decide +kernel
theorem dX1_worth_3 : decode cX1_worth 3 = .ok (.getfield 15, 3) := by decide +kernel
theorem dX1_worth_6 : decode cX1_worth 6 = .ok (.iload_n 1, 1) := by decide +kernel
theorem dX1_worth_7 : decode cX1_worth 7 = .ok (.bipush 8, 2) := by decide +kernel
theorem dX1_worth_9 : decode cX1_worth 9 = .ok (.imul, 1) := by decide +kernel
theorem dX1_worth_10 : decode cX1_worth 10 = .ok (.iload_n 2, 1) := by decide +kernel
theorem dX1_worth_11 : decode cX1_worth 11 = .ok (.iadd, 1) := by decide +kernel
theorem dX1_worth_12 : decode cX1_worth 12 = .ok (.iaload, 1) := by decide +kernel
theorem dX1_worth_13 : decode cX1_worth 13 = .ok (.isub, 1) := by decide +kernel
theorem dX1_worth_14 : decode cX1_worth 14 = .ok (.aload_n 0, 1) := by decide +kernel
theorem dX1_worth_15 : decode cX1_worth 15 = .ok (.getfield 11, 3) := by decide +kernel
theorem dX1_worth_18 : decode cX1_worth 18 = .ok (.iload_n 1, 1) := by decide +kernel
theorem dX1_worth_19 : decode cX1_worth 19 = .ok (.iconst 1, 1) := by decide +kernel
theorem dX1_worth_20 : decode cX1_worth 20 = .ok (.iadd, 1) := by decide +kernel
theorem dX1_worth_21 : decode cX1_worth 21 = .ok (.sipush 256, 3) := by decide +kernel
theorem dX1_worth_24 : decode cX1_worth 24 = .ok (.imul, 1) := by decide +kernel
theorem dX1_worth_25 : decode cX1_worth 25 = .ok (.iload_n 3, 1) := by decide +kernel
theorem dX1_worth_26 : decode cX1_worth 26 = .ok (.iconst 1, 1) := by decide +kernel
theorem dX1_worth_27 : decode cX1_worth 27 = .ok (.iload_n 2, 1) := by decide +kernel
theorem dX1_worth_28 : decode cX1_worth 28 = .ok (.ishl, 1) := by decide +kernel
theorem dX1_worth_29 : decode cX1_worth 29 = .ok (.ior, 1) := by decide +kernel
theorem dX1_worth_30 : decode cX1_worth 30 = .ok (.iadd, 1) := by decide +kernel
theorem dX1_worth_31 : decode cX1_worth 31 = .ok (.iaload, 1) := by decide +kernel
theorem dX1_worth_32 : decode cX1_worth 32 = .ok (.iadd, 1) := by decide +kernel
theorem dX1_worth_33 : decode cX1_worth 33 = .ok (.ireturn, 1) := by decide +kernel
theorem dX1_choose_0 : decode cX1_choose 0 = .ok (.iconst 0, 1) := by decide +kernel
theorem dX1_choose_1 : decode cX1_choose 1 = .ok (.istore_n 1, 1) := by decide +kernel
theorem dX1_choose_2 : decode cX1_choose 2 = .ok (.aload_n 0, 1) := by decide +kernel
theorem dX1_choose_3 : decode cX1_choose 3 = .ok (.iconst 0, 1) := by decide +kernel
theorem dX1_choose_4 : decode cX1_choose 4 = .ok (.putfield 85, 3) := by decide +kernel
theorem dX1_choose_7 : decode cX1_choose 7 = .ok (.aload_n 0, 1) := by decide +kernel
theorem dX1_choose_8 : decode cX1_choose 8 = .ok (.iconst 0, 1) := by decide +kernel
theorem dX1_choose_9 : decode cX1_choose 9 = .ok (.putfield 88, 3) := by decide +kernel
theorem dX1_choose_12 : decode cX1_choose 12 = .ok (.iconst 0, 1) := by decide +kernel
theorem dX1_choose_13 : decode cX1_choose 13 = .ok (.istore_n 2, 1) := by decide +kernel
theorem dX1_choose_14 : decode cX1_choose 14 = .ok (.iload_n 2, 1) := by decide +kernel
theorem dX1_choose_15 : decode cX1_choose 15 = .ok (.aload_n 0, 1) := by decide +kernel
theorem dX1_choose_16 : decode cX1_choose 16 = .ok (.getfield 21, 3) := by decide +kernel
theorem dX1_choose_19 : decode cX1_choose 19 = .ok (.getfield 29, 3) := by decide +kernel
theorem dX1_choose_22 : decode cX1_choose 22 = .ok (.if_icmp .ge 64, 3) := by decide +kernel
theorem dX1_choose_25 : decode cX1_choose 25 = .ok (.aload_n 0, 1) := by decide +kernel
theorem dX1_choose_26 : decode cX1_choose 26 = .ok (.iload_n 2, 1) := by decide +kernel
theorem dX1_choose_27 : decode cX1_choose 27 = .ok (.iload_n 1, 1) := by decide +kernel
theorem dX1_choose_28 : decode cX1_choose 28 = .ok (.invokevirtual 91, 3) := by decide +kernel
theorem dX1_choose_31 : decode cX1_choose 31 = .ok (.istore_n 3, 1) := by decide +kernel
theorem dX1_choose_32 : decode cX1_choose 32 = .ok (.aload_n 0, 1) := by decide +kernel
theorem dX1_choose_33 : decode cX1_choose 33 = .ok (.getfield 18, 3) := by decide +kernel
theorem dX1_choose_36 : decode cX1_choose 36 = .ok (.iload_n 2, 1) := by decide +kernel
theorem dX1_choose_37 : decode cX1_choose 37 = .ok (.iload_n 3, 1) := by decide +kernel
theorem dX1_choose_38 : decode cX1_choose 38 = .ok (.iastore, 1) := by decide +kernel
theorem dX1_choose_39 : decode cX1_choose 39 = .ok (.iload_n 3, 1) := by decide +kernel
theorem dX1_choose_40 : decode cX1_choose 40 = .ok (.iconst (-1), 1) := by decide +kernel
theorem dX1_choose_41 : decode cX1_choose 41 = .ok (.if_icmp .eq 39, 3) := by decide +kernel
theorem dX1_choose_44 : decode cX1_choose 44 = .ok (.iload_n 1, 1) := by decide +kernel
theorem dX1_choose_45 : decode cX1_choose 45 = .ok (.iconst 1, 1) := by decide +kernel
theorem dX1_choose_46 : decode cX1_choose 46 = .ok (.iload_n 3, 1) := by decide +kernel
theorem dX1_choose_47 : decode cX1_choose 47 = .ok (.ishl, 1) := by decide +kernel
theorem dX1_choose_48 : decode cX1_choose 48 = .ok (.ior, 1) := by decide +kernel
theorem dX1_choose_49 : decode cX1_choose 49 = .ok (.istore_n 1, 1) := by decide +kernel
theorem dX1_choose_50 : decode cX1_choose 50 = .ok (.aload_n 0, 1) := by decide +kernel
theorem dX1_choose_51 : decode cX1_choose 51 = .ok (.dup, 1) := by decide +kernel
theorem dX1_choose_52 : decode cX1_choose 52 = .ok (.getfield 85, 3) := by decide +kernel
theorem dX1_choose_55 : decode cX1_choose 55 = .ok (.iconst 1, 1) := by decide +kernel
theorem dX1_choose_56 : decode cX1_choose 56 = .ok (.iadd, 1) := by decide +kernel
theorem dX1_choose_57 : decode cX1_choose 57 = .ok (.putfield 85, 3) := by decide +kernel
theorem dX1_choose_60 : decode cX1_choose 60 = .ok (.aload_n 0, 1) := by decide +kernel
theorem dX1_choose_61 : decode cX1_choose 61 = .ok (.dup, 1) := by decide +kernel
theorem dX1_choose_62 : decode cX1_choose 62 = .ok (.getfield 88, 3) := by decide +kernel
theorem dX1_choose_65 : decode cX1_choose 65 = .ok (.aload_n 0, 1) := by decide +kernel
theorem dX1_choose_66 : decode cX1_choose 66 = .ok (.getfield 15, 3) := by decide +kernel
theorem dX1_choose_69 : decode cX1_choose 69 = .ok (.iload_n 2, 1) := by decide +kernel
theorem dX1_choose_70 : decode cX1_choose 70 = .ok (.bipush 8, 2) := by decide +kernel
theorem dX1_choose_72 : decode cX1_choose 72 = .ok (.imul, 1) := by decide +kernel
theorem dX1_choose_73 : decode cX1_choose 73 = .ok (.iload_n 3, 1) := by decide +kernel
theorem dX1_choose_74 : decode cX1_choose 74 = .ok (.iadd, 1) := by decide +kernel
theorem dX1_choose_75 : decode cX1_choose 75 = .ok (.iaload, 1) := by decide +kernel
theorem dX1_choose_76 : decode cX1_choose 76 = .ok (.iadd, 1) := by decide +kernel
theorem dX1_choose_77 : decode cX1_choose 77 = .ok (.putfield 88, 3) := by decide +kernel
theorem dX1_choose_80 : decode cX1_choose 80 = .ok (.iinc 2 1, 3) := by decide +kernel
theorem dX1_choose_83 : decode cX1_choose 83 = .ok (.goto (-69), 3) := by decide +kernel
theorem dX1_choose_86 : decode cX1_choose 86 = .ok (.return_, 1) := by decide +kernel
theorem dX1_firstBest_0 : decode cX1_firstBest 0 = .ok (.iconst 0, 1) := by decide +kernel
theorem dX1_firstBest_1 : decode cX1_firstBest 1 = .ok (.istore_n 3, 1) := by decide +kernel
theorem dX1_firstBest_2 : decode cX1_firstBest 2 = .ok (.iload_n 3, 1) := by decide +kernel
theorem dX1_firstBest_3 : decode cX1_firstBest 3 = .ok (.aload_n 0, 1) := by decide +kernel
theorem dX1_firstBest_4 : decode cX1_firstBest 4 = .ok (.getfield 21, 3) := by decide +kernel
theorem dX1_firstBest_7 : decode cX1_firstBest 7 = .ok (.getfield 35, 3) := by decide +kernel
theorem dX1_firstBest_10 : decode cX1_firstBest 10 = .ok (.if_icmp .ge 43, 3) := by decide +kernel
theorem dX1_firstBest_13 : decode cX1_firstBest 13 = .ok (.aload_n 0, 1) := by decide +kernel
theorem dX1_firstBest_14 : decode cX1_firstBest 14 = .ok (.iload_n 1, 1) := by decide +kernel
theorem dX1_firstBest_15 : decode cX1_firstBest 15 = .ok (.iload_n 3, 1) := by decide +kernel
theorem dX1_firstBest_16 : decode cX1_firstBest 16 = .ok (.iload_n 2, 1) := by decide +kernel
theorem dX1_firstBest_17 : decode cX1_firstBest 17 = .ok (.invokevirtual 73, 3) := by decide +kernel
theorem dX1_firstBest_20 : decode cX1_firstBest 20 = .ok (.ifCond .eq 27, 3) := by decide +kernel
theorem dX1_firstBest_23 : decode cX1_firstBest 23 = .ok (.aload_n 0, 1) := by decide +kernel
theorem dX1_firstBest_24 : decode cX1_firstBest 24 = .ok (.iload_n 1, 1) := by decide +kernel
theorem dX1_firstBest_25 : decode cX1_firstBest 25 = .ok (.iload_n 3, 1) := by decide +kernel
theorem dX1_firstBest_26 : decode cX1_firstBest 26 = .ok (.iload_n 2, 1) := by decide +kernel
theorem dX1_firstBest_27 : decode cX1_firstBest 27 = .ok (.invokevirtual 76, 3) := by decide +kernel
theorem dX1_firstBest_30 : decode cX1_firstBest 30 = .ok (.aload_n 0, 1) := by decide +kernel
theorem dX1_firstBest_31 : decode cX1_firstBest 31 = .ok (.getfield 11, 3) := by decide +kernel
theorem dX1_firstBest_34 : decode cX1_firstBest 34 = .ok (.iload_n 1, 1) := by decide +kernel
theorem dX1_firstBest_35 : decode cX1_firstBest 35 = .ok (.sipush 256, 3) := by decide +kernel
theorem dX1_firstBest_38 : decode cX1_firstBest 38 = .ok (.imul, 1) := by decide +kernel
theorem dX1_firstBest_39 : decode cX1_firstBest 39 = .ok (.iload_n 2, 1) := by decide +kernel
theorem dX1_firstBest_40 : decode cX1_firstBest 40 = .ok (.iadd, 1) := by decide +kernel
theorem dX1_firstBest_41 : decode cX1_firstBest 41 = .ok (.iaload, 1) := by decide +kernel
theorem dX1_firstBest_42 : decode cX1_firstBest 42 = .ok (.if_icmp .ne 5, 3) := by decide +kernel
theorem dX1_firstBest_45 : decode cX1_firstBest 45 = .ok (.iload_n 3, 1) := by decide +kernel
theorem dX1_firstBest_46 : decode cX1_firstBest 46 = .ok (.ireturn, 1) := by decide +kernel
theorem dX1_firstBest_47 : decode cX1_firstBest 47 = .ok (.iinc 3 1, 3) := by decide +kernel
theorem dX1_firstBest_50 : decode cX1_firstBest 50 = .ok (.goto (-48), 3) := by decide +kernel
theorem dX1_firstBest_53 : decode cX1_firstBest 53 = .ok (.iconst (-1), 1) := by decide +kernel
theorem dX1_firstBest_54 : decode cX1_firstBest 54 = .ok (.ireturn, 1) := by decide +kernel
theorem dX2_init_0 : decode cX2_init 0 = .ok (.aload_n 0, 1) := by decide +kernel
theorem dX2_init_1 : decode cX2_init 1 = .ok (.invokespecial 3, 3) := by decide +kernel
theorem dX2_init_4 : decode cX2_init 4 = .ok (.aload_n 0, 1) := by decide +kernel
theorem dX2_init_5 : decode cX2_init 5 = .ok (.iconst 5, 1) := by decide +kernel
theorem dX2_init_6 : decode cX2_init 6 = .ok (.newarray .int, 2) := by decide +kernel
theorem dX2_init_8 : decode cX2_init 8 = .ok (.putfield 9, 3) := by decide +kernel
theorem dX2_init_11 : decode cX2_init 11 = .ok (.aload_n 0, 1) := by decide +kernel
theorem dX2_init_12 : decode cX2_init 12 = .ok (.aload_n 1, 1) := by decide +kernel
theorem dX2_init_13 : decode cX2_init 13 = .ok (.putfield 15, 3) := by decide +kernel
theorem dX2_init_16 : decode cX2_init 16 = .ok (.return_, 1) := by decide +kernel
theorem dX2_weigh_0 : decode cX2_weigh 0 = .ok (.aload_n 0, 1) := by decide +kernel
theorem dX2_weigh_1 : decode cX2_weigh 1 = .ok (.iconst 0, 1) := by decide +kernel
theorem dX2_weigh_2 : decode cX2_weigh 2 = .ok (.putfield 19, 3) := by decide +kernel
theorem dX2_weigh_5 : decode cX2_weigh 5 = .ok (.aload_n 0, 1) := by decide +kernel
theorem dX2_weigh_6 : decode cX2_weigh 6 = .ok (.iconst (-1), 1) := by decide +kernel
theorem dX2_weigh_7 : decode cX2_weigh 7 = .ok (.putfield 23, 3) := by decide +kernel
theorem dX2_weigh_10 : decode cX2_weigh 10 = .ok (.iconst 0, 1) := by decide +kernel
theorem dX2_weigh_11 : decode cX2_weigh 11 = .ok (.istore 4, 2) := by decide +kernel
theorem dX2_weigh_13 : decode cX2_weigh 13 = .ok (.iload 4, 2) := by decide +kernel
theorem dX2_weigh_15 : decode cX2_weigh 15 = .ok (.iconst 5, 1) := by decide +kernel
theorem dX2_weigh_16 : decode cX2_weigh 16 = .ok (.if_icmp .ge 17, 3) := by decide +kernel
theorem dX2_weigh_19 : decode cX2_weigh 19 = .ok (.aload_n 0, 1) := by decide +kernel
theorem dX2_weigh_20 : decode cX2_weigh 20 = .ok (.getfield 9, 3) := by decide +kernel
theorem dX2_weigh_23 : decode cX2_weigh 23 = .ok (.iload 4, 2) := by decide +kernel
theorem dX2_weigh_25 : decode cX2_weigh 25 = .ok (.iconst 0, 1) := by decide +kernel
theorem dX2_weigh_26 : decode cX2_weigh 26 = .ok (.iastore, 1) := by decide +kernel
theorem dX2_weigh_27 : decode cX2_weigh 27 = .ok (.iinc 4 1, 3) := by decide +kernel
theorem dX2_weigh_30 : decode cX2_weigh 30 = .ok (.goto (-17), 3) := by decide +kernel
theorem dX2_weigh_33 : decode cX2_weigh 33 = .ok (.iconst 0, 1) := by decide +kernel
theorem dX2_weigh_34 : decode cX2_weigh 34 = .ok (.istore 4, 2) := by decide +kernel
theorem dX2_weigh_36 : decode cX2_weigh 36 = .ok (.iload 4, 2) := by decide +kernel
theorem dX2_weigh_38 : decode cX2_weigh 38 = .ok (.aload_n 0, 1) := by decide +kernel
theorem dX2_weigh_39 : decode cX2_weigh 39 = .ok (.getfield 15, 3) := by decide +kernel
theorem dX2_weigh_42 : decode cX2_weigh 42 = .ok (.getfield 26, 3) := by decide +kernel
theorem dX2_weigh_45 : decode cX2_weigh 45 = .ok (.if_icmp .ge 81, 3) := by decide +kernel
theorem dX2_weigh_48 : decode cX2_weigh 48 = .ok (.aload_n 1, 1) := by decide +kernel
theorem dX2_weigh_49 : decode cX2_weigh 49 = .ok (.iload 4, 2) := by decide +kernel
theorem dX2_weigh_51 : decode cX2_weigh 51 = .ok (.invokevirtual 31, 3) := by decide +kernel
theorem dX2_weigh_54 : decode cX2_weigh 54 = .ok (.ifCond .eq 66, 3) := by decide +kernel
theorem dX2_weigh_57 : decode cX2_weigh 57 = .ok (.iconst 0, 1) := by decide +kernel
theorem dX2_weigh_58 : decode cX2_weigh 58 = .ok (.istore 5, 2) := by decide +kernel
theorem dX2_weigh_60 : decode cX2_weigh 60 = .ok (.iload 5, 2) := by decide +kernel
theorem dX2_weigh_62 : decode cX2_weigh 62 = .ok (.aload_n 0, 1) := by decide +kernel
theorem dX2_weigh_63 : decode cX2_weigh 63 = .ok (.getfield 15, 3) := by decide +kernel
theorem dX2_weigh_66 : decode cX2_weigh 66 = .ok (.getfield 37, 3) := by decide +kernel
theorem dX2_weigh_69 : decode cX2_weigh 69 = .ok (.if_icmp .ge 51, 3) := by decide +kernel
theorem dX2_weigh_72 : decode cX2_weigh 72 = .ok (.aload_n 2, 1) := by decide +kernel
theorem dX2_weigh_73 : decode cX2_weigh 73 = .ok (.aload_n 1, 1) := by decide +kernel
theorem dX2_weigh_74 : decode cX2_weigh 74 = .ok (.invokevirtual 40, 3) := by decide +kernel
theorem dX2_weigh_77 : decode cX2_weigh 77 = .ok (.aload_n 2, 1) := by decide +kernel
theorem dX2_weigh_78 : decode cX2_weigh 78 = .ok (.iload 4, 2) := by decide +kernel
theorem dX2_weigh_80 : decode cX2_weigh 80 = .ok (.iload 5, 2) := by decide +kernel
theorem dX2_weigh_82 : decode cX2_weigh 82 = .ok (.invokevirtual 44, 3) := by decide +kernel
theorem dX2_weigh_85 : decode cX2_weigh 85 = .ok (.aload_n 2, 1) := by decide +kernel
theorem dX2_weigh_86 : decode cX2_weigh 86 = .ok (.invokevirtual 48, 3) := by decide +kernel
theorem dX2_weigh_89 : decode cX2_weigh 89 = .ok (.istore 6, 2) := by decide +kernel
theorem dX2_weigh_91 : decode cX2_weigh 91 = .ok (.aload_n 3, 1) := by decide +kernel
theorem dX2_weigh_92 : decode cX2_weigh 92 = .ok (.iload 6, 2) := by decide +kernel
theorem dX2_weigh_94 : decode cX2_weigh 94 = .ok (.invokevirtual 52, 3) := by decide +kernel
theorem dX2_weigh_97 : decode cX2_weigh 97 = .ok (.ifCond .eq 17, 3) := by decide +kernel
theorem dX2_weigh_100 : decode cX2_weigh 100 = .ok (.aload_n 0, 1) := by decide +kernel
theorem dX2_weigh_101 : decode cX2_weigh 101 = .ok (.bipush 10, 2) := by decide +kernel
theorem dX2_weigh_103 : decode cX2_weigh 103 = .ok (.iload 4, 2) := by decide +kernel
theorem dX2_weigh_105 : decode cX2_weigh 105 = .ok (.imul, 1) := by decide +kernel
theorem dX2_weigh_106 : decode cX2_weigh 106 = .ok (.iload 5, 2) := by decide +kernel
theorem dX2_weigh_108 : decode cX2_weigh 108 = .ok (.iadd, 1) := by decide +kernel
theorem dX2_weigh_109 : decode cX2_weigh 109 = .ok (.iload 6, 2) := by decide +kernel
theorem dX2_weigh_111 : decode cX2_weigh 111 = .ok (.invokevirtual 57, 3) := by decide +kernel
theorem dX2_weigh_114 : decode cX2_weigh 114 = .ok (.iinc 5 1, 3) := by decide +kernel
theorem dX2_weigh_117 : decode cX2_weigh 117 = .ok (.goto (-57), 3) := by decide +kernel
theorem dX2_weigh_120 : decode cX2_weigh 120 = .ok (.iinc 4 1, 3) := by decide +kernel
theorem dX2_weigh_123 : decode cX2_weigh 123 = .ok (.goto (-87), 3) := by decide +kernel
theorem dX2_weigh_126 : decode cX2_weigh 126 = .ok (.return_, 1) := by decide +kernel
theorem dX2_countPair_0 : decode cX2_countPair 0 = .ok (.aload_n 0, 1) := by decide +kernel
theorem dX2_countPair_1 : decode cX2_countPair 1 = .ok (.getfield 19, 3) := by decide +kernel
theorem dX2_countPair_4 : decode cX2_countPair 4 = .ok (.ifCond .ne 8, 3) := by decide +kernel
theorem dX2_countPair_7 : decode cX2_countPair 7 = .ok (.aload_n 0, 1) := by decide +kernel
theorem dX2_countPair_8 : decode cX2_countPair 8 = .ok (.iload_n 1, 1) := by decide +kernel
theorem dX2_countPair_9 : decode cX2_countPair 9 = .ok (.putfield 23, 3) := by decide +kernel
theorem dX2_countPair_12 : decode cX2_countPair 12 = .ok (.aload_n 0, 1) := by decide +kernel
theorem dX2_countPair_13 : decode cX2_countPair 13 = .ok (.dup, 1) := by decide +kernel
theorem dX2_countPair_14 : decode cX2_countPair 14 = .ok (.getfield 19, 3) := by decide +kernel
theorem dX2_countPair_17 : decode cX2_countPair 17 = .ok (.iconst 1, 1) := by decide +kernel
theorem dX2_countPair_18 : decode cX2_countPair 18 = .ok (.iadd, 1) := by decide +kernel
theorem dX2_countPair_19 : decode cX2_countPair 19 = .ok (.putfield 19, 3) := by decide +kernel
theorem dX2_countPair_22 : decode cX2_countPair 22 = .ok (.iconst 0, 1) := by decide +kernel
theorem dX2_countPair_23 : decode cX2_countPair 23 = .ok (.istore_n 3, 1) := by decide +kernel
theorem dX2_countPair_24 : decode cX2_countPair 24 = .ok (.iload_n 3, 1) := by decide +kernel
theorem dX2_countPair_25 : decode cX2_countPair 25 = .ok (.aload_n 0, 1) := by decide +kernel
theorem dX2_countPair_26 : decode cX2_countPair 26 = .ok (.getfield 15, 3) := by decide +kernel
theorem dX2_countPair_29 : decode cX2_countPair 29 = .ok (.getfield 60, 3) := by decide +kernel
theorem dX2_countPair_32 : decode cX2_countPair 32 = .ok (.if_icmp .ge 23, 3) := by decide +kernel
theorem dX2_countPair_35 : decode cX2_countPair 35 = .ok (.aload_n 0, 1) := by decide +kernel
theorem dX2_countPair_36 : decode cX2_countPair 36 = .ok (.getfield 9, 3) := by decide +kernel
theorem dX2_countPair_39 : decode cX2_countPair 39 = .ok (.iload_n 3, 1) := by decide +kernel
theorem dX2_countPair_40 : decode cX2_countPair 40 = .ok (.dup2, 1) := by decide +kernel
theorem dX2_countPair_41 : decode cX2_countPair 41 = .ok (.iaload, 1) := by decide +kernel
theorem dX2_countPair_42 : decode cX2_countPair 42 = .ok (.iload_n 2, 1) := by decide +kernel
theorem dX2_countPair_43 : decode cX2_countPair 43 = .ok (.iload_n 3, 1) := by decide +kernel
theorem dX2_countPair_44 : decode cX2_countPair 44 = .ok (.ishr, 1) := by decide +kernel
theorem dX2_countPair_45 : decode cX2_countPair 45 = .ok (.iconst 1, 1) := by decide +kernel
theorem dX2_countPair_46 : decode cX2_countPair 46 = .ok (.iand, 1) := by decide +kernel
theorem dX2_countPair_47 : decode cX2_countPair 47 = .ok (.iadd, 1) := by decide +kernel
theorem dX2_countPair_48 : decode cX2_countPair 48 = .ok (.iastore, 1) := by decide +kernel
theorem dX2_countPair_49 : decode cX2_countPair 49 = .ok (.iinc 3 1, 3) := by decide +kernel
theorem dX2_countPair_52 : decode cX2_countPair 52 = .ok (.goto (-28), 3) := by decide +kernel
theorem dX2_countPair_55 : decode cX2_countPair 55 = .ok (.return_, 1) := by decide +kernel
theorem dX2_leftAtWorst_0 : decode cX2_leftAtWorst 0 = .ok (.aload_n 0, 1) := by decide +kernel
theorem dX2_leftAtWorst_1 : decode cX2_leftAtWorst 1 = .ok (.getfield 9, 3) := by decide +kernel
theorem dX2_leftAtWorst_4 : decode cX2_leftAtWorst 4 = .ok (.iload_n 1, 1) := by decide +kernel
theorem dX2_leftAtWorst_5 : decode cX2_leftAtWorst 5 = .ok (.iaload, 1) := by decide +kernel
theorem dX2_leftAtWorst_6 : decode cX2_leftAtWorst 6 = .ok (.aload_n 0, 1) := by decide +kernel
theorem dX2_leftAtWorst_7 : decode cX2_leftAtWorst 7 = .ok (.getfield 19, 3) := by decide +kernel
theorem dX2_leftAtWorst_10 : decode cX2_leftAtWorst 10 = .ok (.aload_n 0, 1) := by decide +kernel
theorem dX2_leftAtWorst_11 : decode cX2_leftAtWorst 11 = .ok (.getfield 9, 3) := by decide +kernel
theorem dX2_leftAtWorst_14 : decode cX2_leftAtWorst 14 = .ok (.iload_n 1, 1) := by decide +kernel
theorem dX2_leftAtWorst_15 : decode cX2_leftAtWorst 15 = .ok (.iaload, 1) := by decide +kernel
theorem dX2_leftAtWorst_16 : decode cX2_leftAtWorst 16 = .ok (.isub, 1) := by decide +kernel
theorem dX2_leftAtWorst_17 : decode cX2_leftAtWorst 17 = .ok (.invokestatic 63, 3) := by decide +kernel
theorem dX2_leftAtWorst_20 : decode cX2_leftAtWorst 20 = .ok (.ireturn, 1) := by decide +kernel
theorem dX2_bestToWatch_0 : decode cX2_bestToWatch 0 = .ok (.iconst (-1), 1) := by decide +kernel
theorem dX2_bestToWatch_1 : decode cX2_bestToWatch 1 = .ok (.istore_n 2, 1) := by decide +kernel
theorem dX2_bestToWatch_2 : decode cX2_bestToWatch 2 = .ok (.iconst 0, 1) := by decide +kernel
theorem dX2_bestToWatch_3 : decode cX2_bestToWatch 3 = .ok (.istore_n 3, 1) := by decide +kernel
theorem dX2_bestToWatch_4 : decode cX2_bestToWatch 4 = .ok (.iload_n 3, 1) := by decide +kernel
theorem dX2_bestToWatch_5 : decode cX2_bestToWatch 5 = .ok (.aload_n 0, 1) := by decide +kernel
theorem dX2_bestToWatch_6 : decode cX2_bestToWatch 6 = .ok (.getfield 15, 3) := by decide +kernel
theorem dX2_bestToWatch_9 : decode cX2_bestToWatch 9 = .ok (.getfield 60, 3) := by decide +kernel
theorem dX2_bestToWatch_12 : decode cX2_bestToWatch 12 = .ok (.if_icmp .ge 37, 3) := by decide +kernel
theorem dX2_bestToWatch_15 : decode cX2_bestToWatch 15 = .ok (.aload_n 1, 1) := by decide +kernel
theorem dX2_bestToWatch_16 : decode cX2_bestToWatch 16 = .ok (.iload_n 3, 1) := by decide +kernel
theorem dX2_bestToWatch_17 : decode cX2_bestToWatch 17 = .ok (.invokevirtual 69, 3) := by decide +kernel
theorem dX2_bestToWatch_20 : decode cX2_bestToWatch 20 = .ok (.ifCond .ne 23, 3) := by decide +kernel
theorem dX2_bestToWatch_23 : decode cX2_bestToWatch 23 = .ok (.iload_n 2, 1) := by decide +kernel
theorem dX2_bestToWatch_24 : decode cX2_bestToWatch 24 = .ok (.iconst (-1), 1) := by decide +kernel
theorem dX2_bestToWatch_25 : decode cX2_bestToWatch 25 = .ok (.if_icmp .eq 16, 3) := by decide +kernel
theorem dX2_bestToWatch_28 : decode cX2_bestToWatch 28 = .ok (.aload_n 0, 1) := by decide +kernel
theorem dX2_bestToWatch_29 : decode cX2_bestToWatch 29 = .ok (.iload_n 3, 1) := by decide +kernel
theorem dX2_bestToWatch_30 : decode cX2_bestToWatch 30 = .ok (.invokevirtual 72, 3) := by decide +kernel
theorem dX2_bestToWatch_33 : decode cX2_bestToWatch 33 = .ok (.aload_n 0, 1) := by decide +kernel
theorem dX2_bestToWatch_34 : decode cX2_bestToWatch 34 = .ok (.iload_n 2, 1) := by decide +kernel
theorem dX2_bestToWatch_35 : decode cX2_bestToWatch 35 = .ok (.invokevirtual 72, 3) := by decide +kernel
theorem dX2_bestToWatch_38 : decode cX2_bestToWatch 38 = .ok (.if_icmp .ge 5, 3) := by decide +kernel
theorem dX2_bestToWatch_41 : decode cX2_bestToWatch 41 = .ok (.iload_n 3, 1) := by decide +kernel
theorem dX2_bestToWatch_42 : decode cX2_bestToWatch 42 = .ok (.istore_n 2, 1) := by decide +kernel
theorem dX2_bestToWatch_43 : decode cX2_bestToWatch 43 = .ok (.iinc 3 1, 3) := by decide +kernel
theorem dX2_bestToWatch_46 : decode cX2_bestToWatch 46 = .ok (.goto (-42), 3) := by decide +kernel
theorem dX2_bestToWatch_49 : decode cX2_bestToWatch 49 = .ok (.iload_n 2, 1) := by decide +kernel
theorem dX2_bestToWatch_50 : decode cX2_bestToWatch 50 = .ok (.ireturn, 1) := by decide +kernel
theorem dX3_init_0 : decode cX3_init 0 = .ok (.aload_n 0, 1) := by decide +kernel
theorem dX3_init_1 : decode cX3_init 1 = .ok (.invokespecial 3, 3) := by decide +kernel
theorem dX3_init_4 : decode cX3_init 4 = .ok (.aload_n 0, 1) := by decide +kernel
theorem dX3_init_5 : decode cX3_init 5 = .ok (.bipush 8, 2) := by decide +kernel
theorem dX3_init_7 : decode cX3_init 7 = .ok (.newarray .int, 2) := by decide +kernel
theorem dX3_init_9 : decode cX3_init 9 = .ok (.putfield 9, 3) := by decide +kernel
theorem dX3_init_12 : decode cX3_init 12 = .ok (.aload_n 0, 1) := by decide +kernel
theorem dX3_init_13 : decode cX3_init 13 = .ok (.bipush 12, 2) := by decide +kernel
theorem dX3_init_15 : decode cX3_init 15 = .ok (.newarray .int, 2) := by decide +kernel
theorem dX3_init_17 : decode cX3_init 17 = .ok (.putfield 15, 3) := by decide +kernel
theorem dX3_init_20 : decode cX3_init 20 = .ok (.aload_n 0, 1) := by decide +kernel
theorem dX3_init_21 : decode cX3_init 21 = .ok (.bipush 12, 2) := by decide +kernel
theorem dX3_init_23 : decode cX3_init 23 = .ok (.newarray .int, 2) := by decide +kernel
theorem dX3_init_25 : decode cX3_init 25 = .ok (.putfield 18, 3) := by decide +kernel
theorem dX3_init_28 : decode cX3_init 28 = .ok (.aload_n 0, 1) := by decide +kernel
theorem dX3_init_29 : decode cX3_init 29 = .ok (.bipush 8, 2) := by decide +kernel
theorem dX3_init_31 : decode cX3_init 31 = .ok (.newarray .int, 2) := by decide +kernel
theorem dX3_init_33 : decode cX3_init 33 = .ok (.putfield 21, 3) := by decide +kernel
theorem dX3_init_36 : decode cX3_init 36 = .ok (.aload_n 0, 1) := by decide +kernel
theorem dX3_init_37 : decode cX3_init 37 = .ok (.bipush 8, 2) := by decide +kernel
theorem dX3_init_39 : decode cX3_init 39 = .ok (.newarray .int, 2) := by decide +kernel
theorem dX3_init_41 : decode cX3_init 41 = .ok (.putfield 24, 3) := by decide +kernel
theorem dX3_init_44 : decode cX3_init 44 = .ok (.aload_n 0, 1) := by decide +kernel
theorem dX3_init_45 : decode cX3_init 45 = .ok (.bipush 8, 2) := by decide +kernel
theorem dX3_init_47 : decode cX3_init 47 = .ok (.newarray .int, 2) := by decide +kernel
theorem dX3_init_49 : decode cX3_init 49 = .ok (.putfield 27, 3) := by decide +kernel
theorem dX3_init_52 : decode cX3_init 52 = .ok (.aload_n 0, 1) := by decide +kernel
theorem dX3_init_53 : decode cX3_init 53 = .ok (.iconst 5, 1) := by decide +kernel
theorem dX3_init_54 : decode cX3_init 54 = .ok (.newarray .int, 2) := by decide +kernel
theorem dX3_init_56 : decode cX3_init 56 = .ok (.putfield 30, 3) := by decide +kernel
theorem dX3_init_59 : decode cX3_init 59 = .ok (.aload_n 0, 1) := by decide +kernel
theorem dX3_init_60 : decode cX3_init 60 = .ok (.iconst 5, 1) := by decide +kernel
theorem dX3_init_61 : decode cX3_init 61 = .ok (.newarray .int, 2) := by decide +kernel
theorem dX3_init_63 : decode cX3_init 63 = .ok (.putfield 33, 3) := by decide +kernel
theorem dX3_init_66 : decode cX3_init 66 = .ok (.return_, 1) := by decide +kernel
theorem dX3_copyFrom_0 : decode cX3_copyFrom 0 = .ok (.aload_n 0, 1) := by decide +kernel
theorem dX3_copyFrom_1 : decode cX3_copyFrom 1 = .ok (.aload_n 1, 1) := by decide +kernel
theorem dX3_copyFrom_2 : decode cX3_copyFrom 2 = .ok (.getfield 36, 3) := by decide +kernel
theorem dX3_copyFrom_5 : decode cX3_copyFrom 5 = .ok (.putfield 36, 3) := by decide +kernel
theorem dX3_copyFrom_8 : decode cX3_copyFrom 8 = .ok (.aload_n 0, 1) := by decide +kernel
theorem dX3_copyFrom_9 : decode cX3_copyFrom 9 = .ok (.aload_n 1, 1) := by decide +kernel
theorem dX3_copyFrom_10 : decode cX3_copyFrom 10 = .ok (.getfield 40, 3) := by decide +kernel
theorem dX3_copyFrom_13 : decode cX3_copyFrom 13 = .ok (.putfield 40, 3) := by decide +kernel
theorem dX3_copyFrom_16 : decode cX3_copyFrom 16 = .ok (.aload_n 0, 1) := by decide +kernel
theorem dX3_copyFrom_17 : decode cX3_copyFrom 17 = .ok (.aload_n 1, 1) := by decide +kernel
theorem dX3_copyFrom_18 : decode cX3_copyFrom 18 = .ok (.getfield 43, 3) := by decide +kernel
theorem dX3_copyFrom_21 : decode cX3_copyFrom 21 = .ok (.putfield 43, 3) := by decide +kernel
theorem dX3_copyFrom_24 : decode cX3_copyFrom 24 = .ok (.aload_n 0, 1) := by decide +kernel
theorem dX3_copyFrom_25 : decode cX3_copyFrom 25 = .ok (.aload_n 1, 1) := by decide +kernel
theorem dX3_copyFrom_26 : decode cX3_copyFrom 26 = .ok (.getfield 46, 3) := by decide +kernel
theorem dX3_copyFrom_29 : decode cX3_copyFrom 29 = .ok (.putfield 46, 3) := by decide +kernel
theorem dX3_copyFrom_32 : decode cX3_copyFrom 32 = .ok (.aload_n 1, 1) := by decide +kernel
theorem dX3_copyFrom_33 : decode cX3_copyFrom 33 = .ok (.getfield 9, 3) := by decide +kernel
theorem dX3_copyFrom_36 : decode cX3_copyFrom 36 = .ok (.iconst 0, 1) := by decide +kernel
theorem dX3_copyFrom_37 : decode cX3_copyFrom 37 = .ok (.aload_n 0, 1) := by decide +kernel
theorem dX3_copyFrom_38 : decode cX3_copyFrom 38 = .ok (.getfield 9, 3) := by decide +kernel
theorem dX3_copyFrom_41 : decode cX3_copyFrom 41 = .ok (.iconst 0, 1) := by decide +kernel
theorem dX3_copyFrom_42 : decode cX3_copyFrom 42 = .ok (.bipush 8, 2) := by decide +kernel
theorem dX3_copyFrom_44 : decode cX3_copyFrom 44 = .ok (.invokestatic 49, 3) := by decide +kernel
theorem dX3_copyFrom_47 : decode cX3_copyFrom 47 = .ok (.aload_n 1, 1) := by decide +kernel
theorem dX3_copyFrom_48 : decode cX3_copyFrom 48 = .ok (.getfield 15, 3) := by decide +kernel
theorem dX3_copyFrom_51 : decode cX3_copyFrom 51 = .ok (.iconst 0, 1) := by decide +kernel
theorem dX3_copyFrom_52 : decode cX3_copyFrom 52 = .ok (.aload_n 0, 1) := by decide +kernel
theorem dX3_copyFrom_53 : decode cX3_copyFrom 53 = .ok (.getfield 15, 3) := by decide +kernel
theorem dX3_copyFrom_56 : decode cX3_copyFrom 56 = .ok (.iconst 0, 1) := by decide +kernel
theorem dX3_copyFrom_57 : decode cX3_copyFrom 57 = .ok (.bipush 12, 2) := by decide +kernel
theorem dX3_copyFrom_59 : decode cX3_copyFrom 59 = .ok (.invokestatic 49, 3) := by decide +kernel
theorem dX3_copyFrom_62 : decode cX3_copyFrom 62 = .ok (.aload_n 1, 1) := by decide +kernel
theorem dX3_copyFrom_63 : decode cX3_copyFrom 63 = .ok (.getfield 18, 3) := by decide +kernel
theorem dX3_copyFrom_66 : decode cX3_copyFrom 66 = .ok (.iconst 0, 1) := by decide +kernel
theorem dX3_copyFrom_67 : decode cX3_copyFrom 67 = .ok (.aload_n 0, 1) := by decide +kernel
theorem dX3_copyFrom_68 : decode cX3_copyFrom 68 = .ok (.getfield 18, 3) := by decide +kernel
theorem dX3_copyFrom_71 : decode cX3_copyFrom 71 = .ok (.iconst 0, 1) := by decide +kernel
theorem dX3_copyFrom_72 : decode cX3_copyFrom 72 = .ok (.bipush 12, 2) := by decide +kernel
theorem dX3_copyFrom_74 : decode cX3_copyFrom 74 = .ok (.invokestatic 49, 3) := by decide +kernel
theorem dX3_copyFrom_77 : decode cX3_copyFrom 77 = .ok (.aload_n 1, 1) := by decide +kernel
theorem dX3_copyFrom_78 : decode cX3_copyFrom 78 = .ok (.getfield 21, 3) := by decide +kernel
theorem dX3_copyFrom_81 : decode cX3_copyFrom 81 = .ok (.iconst 0, 1) := by decide +kernel
theorem dX3_copyFrom_82 : decode cX3_copyFrom 82 = .ok (.aload_n 0, 1) := by decide +kernel
theorem dX3_copyFrom_83 : decode cX3_copyFrom 83 = .ok (.getfield 21, 3) := by decide +kernel
theorem dX3_copyFrom_86 : decode cX3_copyFrom 86 = .ok (.iconst 0, 1) := by decide +kernel
theorem dX3_copyFrom_87 : decode cX3_copyFrom 87 = .ok (.bipush 8, 2) := by decide +kernel
theorem dX3_copyFrom_89 : decode cX3_copyFrom 89 = .ok (.invokestatic 49, 3) := by decide +kernel
theorem dX3_copyFrom_92 : decode cX3_copyFrom 92 = .ok (.aload_n 1, 1) := by decide +kernel
theorem dX3_copyFrom_93 : decode cX3_copyFrom 93 = .ok (.getfield 24, 3) := by decide +kernel
theorem dX3_copyFrom_96 : decode cX3_copyFrom 96 = .ok (.iconst 0, 1) := by decide +kernel
theorem dX3_copyFrom_97 : decode cX3_copyFrom 97 = .ok (.aload_n 0, 1) := by decide +kernel
theorem dX3_copyFrom_98 : decode cX3_copyFrom 98 = .ok (.getfield 24, 3) := by decide +kernel
theorem dX3_copyFrom_101 : decode cX3_copyFrom 101 = .ok (.iconst 0, 1) := by decide +kernel
theorem dX3_copyFrom_102 : decode cX3_copyFrom 102 = .ok (.bipush 8, 2) := by decide +kernel
theorem dX3_copyFrom_104 : decode cX3_copyFrom 104 = .ok (.invokestatic 49, 3) := by decide +kernel
theorem dX3_copyFrom_107 : decode cX3_copyFrom 107 = .ok (.aload_n 1, 1) := by decide +kernel
theorem dX3_copyFrom_108 : decode cX3_copyFrom 108 = .ok (.getfield 27, 3) := by decide +kernel
theorem dX3_copyFrom_111 : decode cX3_copyFrom 111 = .ok (.iconst 0, 1) := by decide +kernel
theorem dX3_copyFrom_112 : decode cX3_copyFrom 112 = .ok (.aload_n 0, 1) := by decide +kernel
theorem dX3_copyFrom_113 : decode cX3_copyFrom 113 = .ok (.getfield 27, 3) := by decide +kernel
theorem dX3_copyFrom_116 : decode cX3_copyFrom 116 = .ok (.iconst 0, 1) := by decide +kernel
theorem dX3_copyFrom_117 : decode cX3_copyFrom 117 = .ok (.bipush 8, 2) := by decide +kernel
theorem dX3_copyFrom_119 : decode cX3_copyFrom 119 = .ok (.invokestatic 49, 3) := by decide +kernel
theorem dX3_copyFrom_122 : decode cX3_copyFrom 122 = .ok (.aload_n 1, 1) := by decide +kernel
theorem dX3_copyFrom_123 : decode cX3_copyFrom 123 = .ok (.getfield 30, 3) := by decide +kernel
theorem dX3_copyFrom_126 : decode cX3_copyFrom 126 = .ok (.iconst 0, 1) := by decide +kernel
theorem dX3_copyFrom_127 : decode cX3_copyFrom 127 = .ok (.aload_n 0, 1) := by decide +kernel
theorem dX3_copyFrom_128 : decode cX3_copyFrom 128 = .ok (.getfield 30, 3) := by decide +kernel
theorem dX3_copyFrom_131 : decode cX3_copyFrom 131 = .ok (.iconst 0, 1) := by decide +kernel
theorem dX3_copyFrom_132 : decode cX3_copyFrom 132 = .ok (.iconst 5, 1) := by decide +kernel
theorem dX3_copyFrom_133 : decode cX3_copyFrom 133 = .ok (.invokestatic 49, 3) := by decide +kernel
theorem dX3_copyFrom_136 : decode cX3_copyFrom 136 = .ok (.aload_n 1, 1) := by decide +kernel
theorem dX3_copyFrom_137 : decode cX3_copyFrom 137 = .ok (.getfield 33, 3) := by decide +kernel
theorem dX3_copyFrom_140 : decode cX3_copyFrom 140 = .ok (.iconst 0, 1) := by decide +kernel
theorem dX3_copyFrom_141 : decode cX3_copyFrom 141 = .ok (.aload_n 0, 1) := by decide +kernel
theorem dX3_copyFrom_142 : decode cX3_copyFrom 142 = .ok (.getfield 33, 3) := by decide +kernel
theorem dX3_copyFrom_145 : decode cX3_copyFrom 145 = .ok (.iconst 0, 1) := by decide +kernel
theorem dX3_copyFrom_146 : decode cX3_copyFrom 146 = .ok (.iconst 5, 1) := by decide +kernel
theorem dX3_copyFrom_147 : decode cX3_copyFrom 147 = .ok (.invokestatic 49, 3) := by decide +kernel
theorem dX3_copyFrom_150 : decode cX3_copyFrom 150 = .ok (.return_, 1) := by decide +kernel
theorem dX3_read_0 : decode cX3_read 0 = .ok (.aload_n 0, 1) := by decide +kernel
theorem dX3_read_1 : decode cX3_read 1 = .ok (.iconst 0, 1) := by decide +kernel
theorem dX3_read_2 : decode cX3_read 2 = .ok (.putfield 36, 3) := by decide +kernel
theorem dX3_read_5 : decode cX3_read 5 = .ok (.aload_n 0, 1) := by decide +kernel
theorem dX3_read_6 : decode cX3_read 6 = .ok (.iconst 0, 1) := by decide +kernel
theorem dX3_read_7 : decode cX3_read 7 = .ok (.putfield 40, 3) := by decide +kernel
theorem dX3_read_10 : decode cX3_read 10 = .ok (.aload_n 0, 1) := by decide +kernel
theorem dX3_read_11 : decode cX3_read 11 = .ok (.iconst 0, 1) := by decide +kernel
theorem dX3_read_12 : decode cX3_read 12 = .ok (.putfield 43, 3) := by decide +kernel
theorem dX3_read_15 : decode cX3_read 15 = .ok (.aload_n 0, 1) := by decide +kernel
theorem dX3_read_16 : decode cX3_read 16 = .ok (.iconst 0, 1) := by decide +kernel
theorem dX3_read_17 : decode cX3_read 17 = .ok (.putfield 46, 3) := by decide +kernel
theorem dX3_read_20 : decode cX3_read 20 = .ok (.iconst 0, 1) := by decide +kernel
theorem dX3_read_21 : decode cX3_read 21 = .ok (.istore_n 2, 1) := by decide +kernel
theorem dX3_read_22 : decode cX3_read 22 = .ok (.iload_n 2, 1) := by decide +kernel
theorem dX3_read_23 : decode cX3_read 23 = .ok (.bipush 60, 2) := by decide +kernel
theorem dX3_read_25 : decode cX3_read 25 = .ok (.if_icmp .gt 36, 3) := by decide +kernel
theorem dX3_read_28 : decode cX3_read 28 = .ok (.aload_n 1, 1) := by decide +kernel
theorem dX3_read_29 : decode cX3_read 29 = .ok (.invokevirtual 55, 3) := by decide +kernel
theorem dX3_read_32 : decode cX3_read 32 = .ok (.ifCond .ne 29, 3) := by decide +kernel
theorem dX3_read_35 : decode cX3_read 35 = .ok (.iload_n 2, 1) := by decide +kernel
theorem dX3_read_36 : decode cX3_read 36 = .ok (.bipush 60, 2) := by decide +kernel
theorem dX3_read_38 : decode cX3_read 38 = .ok (.if_icmp .ne 12, 3) := by decide +kernel
theorem dX3_read_41 : decode cX3_read 41 = .ok (.aload_n 1, 1) := by decide +kernel
theorem dX3_read_42 : decode cX3_read 42 = .ok (.iconst 3, 1) := by decide +kernel
theorem dX3_read_43 : decode cX3_read 43 = .ok (.aload_n 1, 1) := by decide +kernel
theorem dX3_read_44 : decode cX3_read 44 = .ok (.invokevirtual 61, 3) := by decide +kernel
theorem dX3_read_47 : decode cX3_read 47 = .ok (.invokevirtual 65, 3) := by decide +kernel
theorem dX3_read_50 : decode cX3_read 50 = .ok (.aload_n 0, 1) := by decide +kernel
theorem dX3_read_51 : decode cX3_read 51 = .ok (.aload_n 1, 1) := by decide +kernel
theorem dX3_read_52 : decode cX3_read 52 = .ok (.invokevirtual 69, 3) := by decide +kernel
theorem dX3_read_55 : decode cX3_read 55 = .ok (.iinc 2 1, 3) := by decide +kernel
theorem dX3_read_58 : decode cX3_read 58 = .ok (.goto (-36), 3) := by decide +kernel
theorem dX3_read_61 : decode cX3_read 61 = .ok (.return_, 1) := by decide +kernel
theorem dX3_readClause_0 : decode cX3_readClause 0 = .ok (.aload_n 1, 1) := by decide +kernel
theorem dX3_readClause_1 : decode cX3_readClause 1 = .ok (.invokevirtual 61, 3) := by decide +kernel
theorem dX3_readClause_4 : decode cX3_readClause 4 = .ok (.istore_n 2, 1) := by decide +kernel
theorem dX3_readClause_5 : decode cX3_readClause 5 = .ok (.aload_n 1, 1) := by decide +kernel
theorem dX3_readClause_6 : decode cX3_readClause 6 = .ok (.ldc 73, 2) := by decide +kernel
theorem dX3_readClause_8 : decode cX3_readClause 8 = .ok (.invokevirtual 75, 3) := by decide +kernel
theorem dX3_readClause_11 : decode cX3_readClause 11 = .ok (.ifCond .eq 12, 3) := by decide +kernel
theorem dX3_readClause_14 : decode cX3_readClause 14 = .ok (.aload_n 0, 1) := by decide +kernel
theorem dX3_readClause_15 : decode cX3_readClause 15 = .ok (.aload_n 1, 1) := by decide +kernel
theorem dX3_readClause_16 : decode cX3_readClause 16 = .ok (.iload_n 2, 1) := by decide +kernel
theorem dX3_readClause_17 : decode cX3_readClause 17 = .ok (.invokevirtual 79, 3) := by decide +kernel
theorem dX3_readClause_20 : decode cX3_readClause 20 = .ok (.goto 63, 3) := by decide +kernel
theorem dX3_readClause_23 : decode cX3_readClause 23 = .ok (.aload_n 1, 1) := by decide +kernel
theorem dX3_readClause_24 : decode cX3_readClause 24 = .ok (.ldc 83, 2) := by decide +kernel
theorem dX3_readClause_26 : decode cX3_readClause 26 = .ok (.invokevirtual 75, 3) := by decide +kernel
theorem dX3_readClause_29 : decode cX3_readClause 29 = .ok (.ifCond .eq 12, 3) := by decide +kernel
theorem dX3_readClause_32 : decode cX3_readClause 32 = .ok (.aload_n 0, 1) := by decide +kernel
theorem dX3_readClause_33 : decode cX3_readClause 33 = .ok (.aload_n 1, 1) := by decide +kernel
theorem dX3_readClause_34 : decode cX3_readClause 34 = .ok (.iload_n 2, 1) := by decide +kernel
theorem dX3_readClause_35 : decode cX3_readClause 35 = .ok (.invokevirtual 85, 3) := by decide +kernel
theorem dX3_readClause_38 : decode cX3_readClause 38 = .ok (.goto 45, 3) := by decide +kernel
theorem dX3_readClause_41 : decode cX3_readClause 41 = .ok (.aload_n 1, 1) := by decide +kernel
theorem dX3_readClause_42 : decode cX3_readClause 42 = .ok (.ldc 88, 2) := by decide +kernel
theorem dX3_readClause_44 : decode cX3_readClause 44 = .ok (.invokevirtual 75, 3) := by decide +kernel
theorem dX3_readClause_47 : decode cX3_readClause 47 = .ok (.ifCond .eq 12, 3) := by decide +kernel
theorem dX3_readClause_50 : decode cX3_readClause 50 = .ok (.aload_n 0, 1) := by decide +kernel
theorem dX3_readClause_51 : decode cX3_readClause 51 = .ok (.aload_n 1, 1) := by decide +kernel
theorem dX3_readClause_52 : decode cX3_readClause 52 = .ok (.iload_n 2, 1) := by decide +kernel
theorem dX3_readClause_53 : decode cX3_readClause 53 = .ok (.invokevirtual 90, 3) := by decide +kernel
theorem dX3_readClause_56 : decode cX3_readClause 56 = .ok (.goto 27, 3) := by decide +kernel
theorem dX3_readClause_59 : decode cX3_readClause 59 = .ok (.aload_n 1, 1) := by decide +kernel
theorem dX3_readClause_60 : decode cX3_readClause 60 = .ok (.ldc 93, 2) := by decide +kernel
theorem dX3_readClause_62 : decode cX3_readClause 62 = .ok (.invokevirtual 75, 3) := by decide +kernel
theorem dX3_readClause_65 : decode cX3_readClause 65 = .ok (.ifCond .eq 12, 3) := by decide +kernel
theorem dX3_readClause_68 : decode cX3_readClause 68 = .ok (.aload_n 0, 1) := by decide +kernel
theorem dX3_readClause_69 : decode cX3_readClause 69 = .ok (.aload_n 1, 1) := by decide +kernel
theorem dX3_readClause_70 : decode cX3_readClause 70 = .ok (.iload_n 2, 1) := by decide +kernel
theorem dX3_readClause_71 : decode cX3_readClause 71 = .ok (.invokevirtual 95, 3) := by decide +kernel
theorem dX3_readClause_74 : decode cX3_readClause 74 = .ok (.goto 9, 3) := by decide +kernel
theorem dX3_readClause_77 : decode cX3_readClause 77 = .ok (.aload_n 1, 1) := by decide +kernel
theorem dX3_readClause_78 : decode cX3_readClause 78 = .ok (.iconst 1, 1) := by decide +kernel
theorem dX3_readClause_79 : decode cX3_readClause 79 = .ok (.iload_n 2, 1) := by decide +kernel
theorem dX3_readClause_80 : decode cX3_readClause 80 = .ok (.invokevirtual 65, 3) := by decide +kernel
theorem dX3_readClause_83 : decode cX3_readClause 83 = .ok (.aload_n 1, 1) := by decide +kernel
theorem dX3_readClause_84 : decode cX3_readClause 84 = .ok (.bipush 59, 2) := by decide +kernel
theorem dX3_readClause_86 : decode cX3_readClause 86 = .ok (.invokevirtual 98, 3) := by decide +kernel
theorem dX3_readClause_89 : decode cX3_readClause 89 = .ok (.return_, 1) := by decide +kernel
theorem dX3_readRoom_0 : decode cX3_readRoom 0 = .ok (.aload_n 0, 1) := by decide +kernel
theorem dX3_readRoom_1 : decode cX3_readRoom 1 = .ok (.getfield 36, 3) := by decide +kernel
theorem dX3_readRoom_4 : decode cX3_readRoom 4 = .ok (.bipush 8, 2) := by decide +kernel
theorem dX3_readRoom_6 : decode cX3_readRoom 6 = .ok (.if_icmp .lt 10, 3) := by decide +kernel
theorem dX3_readRoom_9 : decode cX3_readRoom 9 = .ok (.aload_n 1, 1) := by decide +kernel
theorem dX3_readRoom_10 : decode cX3_readRoom 10 = .ok (.iconst 3, 1) := by decide +kernel
theorem dX3_readRoom_11 : decode cX3_readRoom 11 = .ok (.iload_n 2, 1) := by decide +kernel
theorem dX3_readRoom_12 : decode cX3_readRoom 12 = .ok (.invokevirtual 65, 3) := by decide +kernel
theorem dX3_readRoom_15 : decode cX3_readRoom 15 = .ok (.return_, 1) := by decide +kernel
theorem dX3_readRoom_16 : decode cX3_readRoom 16 = .ok (.aload_n 0, 1) := by decide +kernel
theorem dX3_readRoom_17 : decode cX3_readRoom 17 = .ok (.getfield 9, 3) := by decide +kernel
theorem dX3_readRoom_20 : decode cX3_readRoom 20 = .ok (.aload_n 0, 1) := by decide +kernel
theorem dX3_readRoom_21 : decode cX3_readRoom 21 = .ok (.getfield 36, 3) := by decide +kernel
theorem dX3_readRoom_24 : decode cX3_readRoom 24 = .ok (.aload_n 1, 1) := by decide +kernel
theorem dX3_readRoom_25 : decode cX3_readRoom 25 = .ok (.iconst 0, 1) := by decide +kernel
theorem dX3_readRoom_26 : decode cX3_readRoom 26 = .ok (.bipush 60, 2) := by decide +kernel
theorem dX3_readRoom_28 : decode cX3_readRoom 28 = .ok (.invokevirtual 102, 3) := by decide +kernel
theorem dX3_readRoom_31 : decode cX3_readRoom 31 = .ok (.iastore, 1) := by decide +kernel
theorem dX3_readRoom_32 : decode cX3_readRoom 32 = .ok (.aload_n 0, 1) := by decide +kernel
theorem dX3_readRoom_33 : decode cX3_readRoom 33 = .ok (.dup, 1) := by decide +kernel
theorem dX3_readRoom_34 : decode cX3_readRoom 34 = .ok (.getfield 36, 3) := by decide +kernel
theorem dX3_readRoom_37 : decode cX3_readRoom 37 = .ok (.iconst 1, 1) := by decide +kernel
theorem dX3_readRoom_38 : decode cX3_readRoom 38 = .ok (.iadd, 1) := by decide +kernel
theorem dX3_readRoom_39 : decode cX3_readRoom 39 = .ok (.putfield 36, 3) := by decide +kernel
theorem dX3_readRoom_42 : decode cX3_readRoom 42 = .ok (.return_, 1) := by decide +kernel
theorem dX3_readWay_0 : decode cX3_readWay 0 = .ok (.aload_n 0, 1) := by decide +kernel
theorem dX3_readWay_1 : decode cX3_readWay 1 = .ok (.getfield 40, 3) := by decide +kernel
theorem dX3_readWay_4 : decode cX3_readWay 4 = .ok (.bipush 12, 2) := by decide +kernel
theorem dX3_readWay_6 : decode cX3_readWay 6 = .ok (.if_icmp .lt 10, 3) := by decide +kernel
theorem dX3_readWay_9 : decode cX3_readWay 9 = .ok (.aload_n 1, 1) := by decide +kernel
theorem dX3_readWay_10 : decode cX3_readWay 10 = .ok (.iconst 3, 1) := by decide +kernel
theorem dX3_readWay_11 : decode cX3_readWay 11 = .ok (.iload_n 2, 1) := by decide +kernel
theorem dX3_readWay_12 : decode cX3_readWay 12 = .ok (.invokevirtual 65, 3) := by decide +kernel
theorem dX3_readWay_15 : decode cX3_readWay 15 = .ok (.return_, 1) := by decide +kernel
theorem dX3_readWay_16 : decode cX3_readWay 16 = .ok (.aload_n 0, 1) := by decide +kernel
theorem dX3_readWay_17 : decode cX3_readWay 17 = .ok (.getfield 15, 3) := by decide +kernel
theorem dX3_readWay_20 : decode cX3_readWay 20 = .ok (.aload_n 0, 1) := by decide +kernel
theorem dX3_readWay_21 : decode cX3_readWay 21 = .ok (.getfield 40, 3) := by decide +kernel
theorem dX3_readWay_24 : decode cX3_readWay 24 = .ok (.aload_n 1, 1) := by decide +kernel
theorem dX3_readWay_25 : decode cX3_readWay 25 = .ok (.iconst 0, 1) := by decide +kernel
theorem dX3_readWay_26 : decode cX3_readWay 26 = .ok (.aload_n 0, 1) := by decide +kernel
theorem dX3_readWay_27 : decode cX3_readWay 27 = .ok (.getfield 36, 3) := by decide +kernel
theorem dX3_readWay_30 : decode cX3_readWay 30 = .ok (.iconst 1, 1) := by decide +kernel
theorem dX3_readWay_31 : decode cX3_readWay 31 = .ok (.isub, 1) := by decide +kernel
theorem dX3_readWay_32 : decode cX3_readWay 32 = .ok (.invokevirtual 102, 3) := by decide +kernel
theorem dX3_readWay_35 : decode cX3_readWay 35 = .ok (.iastore, 1) := by decide +kernel
theorem dX3_readWay_36 : decode cX3_readWay 36 = .ok (.aload_n 0, 1) := by decide +kernel
theorem dX3_readWay_37 : decode cX3_readWay 37 = .ok (.getfield 18, 3) := by decide +kernel
theorem dX3_readWay_40 : decode cX3_readWay 40 = .ok (.aload_n 0, 1) := by decide +kernel
theorem dX3_readWay_41 : decode cX3_readWay 41 = .ok (.getfield 40, 3) := by decide +kernel
theorem dX3_readWay_44 : decode cX3_readWay 44 = .ok (.aload_n 1, 1) := by decide +kernel
theorem dX3_readWay_45 : decode cX3_readWay 45 = .ok (.iconst 0, 1) := by decide +kernel
theorem dX3_readWay_46 : decode cX3_readWay 46 = .ok (.aload_n 0, 1) := by decide +kernel
theorem dX3_readWay_47 : decode cX3_readWay 47 = .ok (.getfield 36, 3) := by decide +kernel
theorem dX3_readWay_50 : decode cX3_readWay 50 = .ok (.iconst 1, 1) := by decide +kernel
theorem dX3_readWay_51 : decode cX3_readWay 51 = .ok (.isub, 1) := by decide +kernel
theorem dX3_readWay_52 : decode cX3_readWay 52 = .ok (.invokevirtual 102, 3) := by decide +kernel
theorem dX3_readWay_55 : decode cX3_readWay 55 = .ok (.iastore, 1) := by decide +kernel
theorem dX3_readWay_56 : decode cX3_readWay 56 = .ok (.aload_n 0, 1) := by decide +kernel
theorem dX3_readWay_57 : decode cX3_readWay 57 = .ok (.getfield 15, 3) := by decide +kernel
theorem dX3_readWay_60 : decode cX3_readWay 60 = .ok (.aload_n 0, 1) := by decide +kernel
theorem dX3_readWay_61 : decode cX3_readWay 61 = .ok (.getfield 40, 3) := by decide +kernel
theorem dX3_readWay_64 : decode cX3_readWay 64 = .ok (.iaload, 1) := by decide +kernel
theorem dX3_readWay_65 : decode cX3_readWay 65 = .ok (.aload_n 0, 1) := by decide +kernel
theorem dX3_readWay_66 : decode cX3_readWay 66 = .ok (.getfield 18, 3) := by decide +kernel
theorem dX3_readWay_69 : decode cX3_readWay 69 = .ok (.aload_n 0, 1) := by decide +kernel
theorem dX3_readWay_70 : decode cX3_readWay 70 = .ok (.getfield 40, 3) := by decide +kernel
theorem dX3_readWay_73 : decode cX3_readWay 73 = .ok (.iaload, 1) := by decide +kernel
theorem dX3_readWay_74 : decode cX3_readWay 74 = .ok (.if_icmp .ne 7, 3) := by decide +kernel
theorem dX3_readWay_77 : decode cX3_readWay 77 = .ok (.aload_n 1, 1) := by decide +kernel
theorem dX3_readWay_78 : decode cX3_readWay 78 = .ok (.invokevirtual 106, 3) := by decide +kernel
theorem dX3_readWay_81 : decode cX3_readWay 81 = .ok (.aload_n 0, 1) := by decide +kernel
theorem dX3_readWay_82 : decode cX3_readWay 82 = .ok (.dup, 1) := by decide +kernel
theorem dX3_readWay_83 : decode cX3_readWay 83 = .ok (.getfield 40, 3) := by decide +kernel
theorem dX3_readWay_86 : decode cX3_readWay 86 = .ok (.iconst 1, 1) := by decide +kernel
theorem dX3_readWay_87 : decode cX3_readWay 87 = .ok (.iadd, 1) := by decide +kernel
theorem dX3_readWay_88 : decode cX3_readWay 88 = .ok (.putfield 40, 3) := by decide +kernel
theorem dX3_readWay_91 : decode cX3_readWay 91 = .ok (.return_, 1) := by decide +kernel
theorem dX3_readScheme_0 : decode cX3_readScheme 0 = .ok (.aload_n 0, 1) := by decide +kernel
theorem dX3_readScheme_1 : decode cX3_readScheme 1 = .ok (.getfield 43, 3) := by decide +kernel
theorem dX3_readScheme_4 : decode cX3_readScheme 4 = .ok (.bipush 8, 2) := by decide +kernel
theorem dX3_readScheme_6 : decode cX3_readScheme 6 = .ok (.if_icmp .lt 10, 3) := by decide +kernel
theorem dX3_readScheme_9 : decode cX3_readScheme 9 = .ok (.aload_n 1, 1) := by decide +kernel
theorem dX3_readScheme_10 : decode cX3_readScheme 10 = .ok (.iconst 3, 1) := by decide +kernel
theorem dX3_readScheme_11 : decode cX3_readScheme 11 = .ok (.iload_n 2, 1) := by decide +kernel
theorem dX3_readScheme_12 : decode cX3_readScheme 12 = .ok (.invokevirtual 65, 3) := by decide +kernel
theorem dX3_readScheme_15 : decode cX3_readScheme 15 = .ok (.return_, 1) := by decide +kernel
theorem dX3_readScheme_16 : decode cX3_readScheme 16 = .ok (.aload_n 0, 1) := by decide +kernel
theorem dX3_readScheme_17 : decode cX3_readScheme 17 = .ok (.getfield 21, 3) := by decide +kernel
theorem dX3_readScheme_20 : decode cX3_readScheme 20 = .ok (.aload_n 0, 1) := by decide +kernel
theorem dX3_readScheme_21 : decode cX3_readScheme 21 = .ok (.getfield 43, 3) := by decide +kernel
theorem dX3_readScheme_24 : decode cX3_readScheme 24 = .ok (.aload_n 1, 1) := by decide +kernel
theorem dX3_readScheme_25 : decode cX3_readScheme 25 = .ok (.iconst 0, 1) := by decide +kernel
theorem dX3_readScheme_26 : decode cX3_readScheme 26 = .ok (.aload_n 0, 1) := by decide +kernel
theorem dX3_readScheme_27 : decode cX3_readScheme 27 = .ok (.getfield 36, 3) := by decide +kernel
theorem dX3_readScheme_30 : decode cX3_readScheme 30 = .ok (.iconst 1, 1) := by decide +kernel
theorem dX3_readScheme_31 : decode cX3_readScheme 31 = .ok (.isub, 1) := by decide +kernel
theorem dX3_readScheme_32 : decode cX3_readScheme 32 = .ok (.invokevirtual 102, 3) := by decide +kernel
theorem dX3_readScheme_35 : decode cX3_readScheme 35 = .ok (.iastore, 1) := by decide +kernel
theorem dX3_readScheme_36 : decode cX3_readScheme 36 = .ok (.aload_n 0, 1) := by decide +kernel
theorem dX3_readScheme_37 : decode cX3_readScheme 37 = .ok (.getfield 24, 3) := by decide +kernel
theorem dX3_readScheme_40 : decode cX3_readScheme 40 = .ok (.aload_n 0, 1) := by decide +kernel
theorem dX3_readScheme_41 : decode cX3_readScheme 41 = .ok (.getfield 43, 3) := by decide +kernel
theorem dX3_readScheme_44 : decode cX3_readScheme 44 = .ok (.aload_n 1, 1) := by decide +kernel
theorem dX3_readScheme_45 : decode cX3_readScheme 45 = .ok (.iconst 1, 1) := by decide +kernel
theorem dX3_readScheme_46 : decode cX3_readScheme 46 = .ok (.bipush 60, 2) := by decide +kernel
theorem dX3_readScheme_48 : decode cX3_readScheme 48 = .ok (.invokevirtual 102, 3) := by decide +kernel
theorem dX3_readScheme_51 : decode cX3_readScheme 51 = .ok (.iastore, 1) := by decide +kernel
theorem dX3_readScheme_52 : decode cX3_readScheme 52 = .ok (.aload_n 0, 1) := by decide +kernel
theorem dX3_readScheme_53 : decode cX3_readScheme 53 = .ok (.getfield 27, 3) := by decide +kernel
theorem dX3_readScheme_56 : decode cX3_readScheme 56 = .ok (.aload_n 0, 1) := by decide +kernel
theorem dX3_readScheme_57 : decode cX3_readScheme 57 = .ok (.getfield 43, 3) := by decide +kernel
theorem dX3_readScheme_60 : decode cX3_readScheme 60 = .ok (.aload_n 1, 1) := by decide +kernel
theorem dX3_readScheme_61 : decode cX3_readScheme 61 = .ok (.iconst 0, 1) := by decide +kernel
theorem dX3_readScheme_62 : decode cX3_readScheme 62 = .ok (.bipush 9, 2) := by decide +kernel
theorem dX3_readScheme_64 : decode cX3_readScheme 64 = .ok (.invokevirtual 102, 3) := by decide +kernel
theorem dX3_readScheme_67 : decode cX3_readScheme 67 = .ok (.iastore, 1) := by decide +kernel
theorem dX3_readScheme_68 : decode cX3_readScheme 68 = .ok (.aload_n 0, 1) := by decide +kernel
theorem dX3_readScheme_69 : decode cX3_readScheme 69 = .ok (.dup, 1) := by decide +kernel
theorem dX3_readScheme_70 : decode cX3_readScheme 70 = .ok (.getfield 43, 3) := by decide +kernel
theorem dX3_readScheme_73 : decode cX3_readScheme 73 = .ok (.iconst 1, 1) := by decide +kernel
theorem dX3_readScheme_74 : decode cX3_readScheme 74 = .ok (.iadd, 1) := by decide +kernel
theorem dX3_readScheme_75 : decode cX3_readScheme 75 = .ok (.putfield 43, 3) := by decide +kernel
theorem dX3_readScheme_78 : decode cX3_readScheme 78 = .ok (.return_, 1) := by decide +kernel
theorem dX3_readCat_0 : decode cX3_readCat 0 = .ok (.aload_n 0, 1) := by decide +kernel
theorem dX3_readCat_1 : decode cX3_readCat 1 = .ok (.getfield 46, 3) := by decide +kernel
theorem dX3_readCat_4 : decode cX3_readCat 4 = .ok (.iconst 5, 1) := by decide +kernel
theorem dX3_readCat_5 : decode cX3_readCat 5 = .ok (.if_icmp .lt 10, 3) := by decide +kernel
theorem dX3_readCat_8 : decode cX3_readCat 8 = .ok (.aload_n 1, 1) := by decide +kernel
theorem dX3_readCat_9 : decode cX3_readCat 9 = .ok (.iconst 3, 1) := by decide +kernel
theorem dX3_readCat_10 : decode cX3_readCat 10 = .ok (.iload_n 2, 1) := by decide +kernel
theorem dX3_readCat_11 : decode cX3_readCat 11 = .ok (.invokevirtual 65, 3) := by decide +kernel
theorem dX3_readCat_14 : decode cX3_readCat 14 = .ok (.return_, 1) := by decide +kernel
theorem dX3_readCat_15 : decode cX3_readCat 15 = .ok (.aload_n 0, 1) := by decide +kernel
theorem dX3_readCat_16 : decode cX3_readCat 16 = .ok (.getfield 30, 3) := by decide +kernel
theorem dX3_readCat_19 : decode cX3_readCat 19 = .ok (.aload_n 0, 1) := by decide +kernel
theorem dX3_readCat_20 : decode cX3_readCat 20 = .ok (.getfield 46, 3) := by decide +kernel
theorem dX3_readCat_23 : decode cX3_readCat 23 = .ok (.aload_n 1, 1) := by decide +kernel
theorem dX3_readCat_24 : decode cX3_readCat 24 = .ok (.iconst 0, 1) := by decide +kernel
theorem dX3_readCat_25 : decode cX3_readCat 25 = .ok (.aload_n 0, 1) := by decide +kernel
theorem dX3_readCat_26 : decode cX3_readCat 26 = .ok (.getfield 36, 3) := by decide +kernel
theorem dX3_readCat_29 : decode cX3_readCat 29 = .ok (.iconst 1, 1) := by decide +kernel
theorem dX3_readCat_30 : decode cX3_readCat 30 = .ok (.isub, 1) := by decide +kernel
theorem dX3_readCat_31 : decode cX3_readCat 31 = .ok (.invokevirtual 102, 3) := by decide +kernel
theorem dX3_readCat_34 : decode cX3_readCat 34 = .ok (.iastore, 1) := by decide +kernel
theorem dX3_readCat_35 : decode cX3_readCat 35 = .ok (.aload_n 0, 1) := by decide +kernel
theorem dX3_readCat_36 : decode cX3_readCat 36 = .ok (.getfield 33, 3) := by decide +kernel
theorem dX3_readCat_39 : decode cX3_readCat 39 = .ok (.aload_n 0, 1) := by decide +kernel
theorem dX3_readCat_40 : decode cX3_readCat 40 = .ok (.getfield 46, 3) := by decide +kernel
theorem dX3_readCat_43 : decode cX3_readCat 43 = .ok (.aload_n 1, 1) := by decide +kernel
theorem dX3_readCat_44 : decode cX3_readCat 44 = .ok (.iconst 0, 1) := by decide +kernel
theorem dX3_readCat_45 : decode cX3_readCat 45 = .ok (.bipush 20, 2) := by decide +kernel
theorem dX3_readCat_47 : decode cX3_readCat 47 = .ok (.invokevirtual 102, 3) := by decide +kernel
theorem dX3_readCat_50 : decode cX3_readCat 50 = .ok (.iastore, 1) := by decide +kernel
theorem dX3_readCat_51 : decode cX3_readCat 51 = .ok (.aload_n 0, 1) := by decide +kernel
theorem dX3_readCat_52 : decode cX3_readCat 52 = .ok (.dup, 1) := by decide +kernel
theorem dX3_readCat_53 : decode cX3_readCat 53 = .ok (.getfield 46, 3) := by decide +kernel
theorem dX3_readCat_56 : decode cX3_readCat 56 = .ok (.iconst 1, 1) := by decide +kernel
theorem dX3_readCat_57 : decode cX3_readCat 57 = .ok (.iadd, 1) := by decide +kernel
theorem dX3_readCat_58 : decode cX3_readCat 58 = .ok (.putfield 46, 3) := by decide +kernel
theorem dX3_readCat_61 : decode cX3_readCat 61 = .ok (.return_, 1) := by decide +kernel
theorem dX4_init_0 : decode cX4_init 0 = .ok (.aload_n 0, 1) := by decide +kernel
theorem dX4_init_1 : decode cX4_init 1 = .ok (.invokespecial 3, 3) := by decide +kernel
theorem dX4_init_4 : decode cX4_init 4 = .ok (.aload_n 0, 1) := by decide +kernel
theorem dX4_init_5 : decode cX4_init 5 = .ok (.sipush 150, 3) := by decide +kernel
theorem dX4_init_8 : decode cX4_init 8 = .ok (.newarray .int, 2) := by decide +kernel
theorem dX4_init_10 : decode cX4_init 10 = .ok (.putfield 9, 3) := by decide +kernel
theorem dX4_init_13 : decode cX4_init 13 = .ok (.aload_n 0, 1) := by decide +kernel
theorem dX4_init_14 : decode cX4_init 14 = .ok (.sipush 150, 3) := by decide +kernel
theorem dX4_init_17 : decode cX4_init 17 = .ok (.newarray .int, 2) := by decide +kernel
theorem dX4_init_19 : decode cX4_init 19 = .ok (.putfield 15, 3) := by decide +kernel
theorem dX4_init_22 : decode cX4_init 22 = .ok (.aload_n 0, 1) := by decide +kernel
theorem dX4_init_23 : decode cX4_init 23 = .ok (.bipush 7, 2) := by decide +kernel
theorem dX4_init_25 : decode cX4_init 25 = .ok (.newarray .int, 2) := by decide +kernel
theorem dX4_init_27 : decode cX4_init 27 = .ok (.putfield 18, 3) := by decide +kernel
theorem dX4_init_30 : decode cX4_init 30 = .ok (.aload_n 0, 1) := by decide +kernel
theorem dX4_init_31 : decode cX4_init 31 = .ok (.bipush 32, 2) := by decide +kernel
theorem dX4_init_33 : decode cX4_init 33 = .ok (.newarray .int, 2) := by decide +kernel
theorem dX4_init_35 : decode cX4_init 35 = .ok (.putfield 21, 3) := by decide +kernel
theorem dX4_init_38 : decode cX4_init 38 = .ok (.return_, 1) := by decide +kernel
theorem dX4_forget_0 : decode cX4_forget 0 = .ok (.aload_n 0, 1) := by decide +kernel
theorem dX4_forget_1 : decode cX4_forget 1 = .ok (.iconst 0, 1) := by decide +kernel
theorem dX4_forget_2 : decode cX4_forget 2 = .ok (.putfield 24, 3) := by decide +kernel
theorem dX4_forget_5 : decode cX4_forget 5 = .ok (.return_, 1) := by decide +kernel
theorem dX4_read_0 : decode cX4_read 0 = .ok (.aload_n 0, 1) := by decide +kernel
theorem dX4_read_1 : decode cX4_read 1 = .ok (.iconst 0, 1) := by decide +kernel
theorem dX4_read_2 : decode cX4_read 2 = .ok (.putfield 28, 3) := by decide +kernel
theorem dX4_read_5 : decode cX4_read 5 = .ok (.aload_n 0, 1) := by decide +kernel
theorem dX4_read_6 : decode cX4_read 6 = .ok (.aload_n 1, 1) := by decide +kernel
theorem dX4_read_7 : decode cX4_read 7 = .ok (.iconst 0, 1) := by decide +kernel
theorem dX4_read_8 : decode cX4_read 8 = .ok (.invokevirtual 31, 3) := by decide +kernel
theorem dX4_read_11 : decode cX4_read 11 = .ok (.aload_n 1, 1) := by decide +kernel
theorem dX4_read_12 : decode cX4_read 12 = .ok (.invokevirtual 35, 3) := by decide +kernel
theorem dX4_read_15 : decode cX4_read 15 = .ok (.ifCond .ne 12, 3) := by decide +kernel
theorem dX4_read_18 : decode cX4_read 18 = .ok (.aload_n 1, 1) := by decide +kernel
theorem dX4_read_19 : decode cX4_read 19 = .ok (.iconst 1, 1) := by decide +kernel
theorem dX4_read_20 : decode cX4_read 20 = .ok (.aload_n 1, 1) := by decide +kernel
theorem dX4_read_21 : decode cX4_read 21 = .ok (.invokevirtual 41, 3) := by decide +kernel
theorem dX4_read_24 : decode cX4_read 24 = .ok (.invokevirtual 45, 3) := by decide +kernel
theorem dX4_read_27 : decode cX4_read 27 = .ok (.aload_n 1, 1) := by decide +kernel
theorem dX4_read_28 : decode cX4_read 28 = .ok (.invokevirtual 49, 3) := by decide +kernel
theorem dX4_read_31 : decode cX4_read 31 = .ok (.ifCond .ne 28, 3) := by decide +kernel
theorem dX4_read_34 : decode cX4_read 34 = .ok (.aload_n 0, 1) := by decide +kernel
theorem dX4_read_35 : decode cX4_read 35 = .ok (.getfield 15, 3) := by decide +kernel
theorem dX4_read_38 : decode cX4_read 38 = .ok (.iconst 0, 1) := by decide +kernel
theorem dX4_read_39 : decode cX4_read 39 = .ok (.aload_n 0, 1) := by decide +kernel
theorem dX4_read_40 : decode cX4_read 40 = .ok (.getfield 9, 3) := by decide +kernel
theorem dX4_read_43 : decode cX4_read 43 = .ok (.iconst 0, 1) := by decide +kernel
theorem dX4_read_44 : decode cX4_read 44 = .ok (.aload_n 0, 1) := by decide +kernel
theorem dX4_read_45 : decode cX4_read 45 = .ok (.getfield 28, 3) := by decide +kernel
theorem dX4_read_48 : decode cX4_read 48 = .ok (.invokestatic 52, 3) := by decide +kernel
theorem dX4_read_51 : decode cX4_read 51 = .ok (.aload_n 0, 1) := by decide +kernel
theorem dX4_read_52 : decode cX4_read 52 = .ok (.aload_n 0, 1) := by decide +kernel
theorem dX4_read_53 : decode cX4_read 53 = .ok (.getfield 28, 3) := by decide +kernel
theorem dX4_read_56 : decode cX4_read 56 = .ok (.putfield 24, 3) := by decide +kernel
theorem dX4_read_59 : decode cX4_read 59 = .ok (.return_, 1) := by decide +kernel
theorem dX4_readSum_0 : decode cX4_readSum 0 = .ok (.aload_n 0, 1) := by decide +kernel
theorem dX4_readSum_1 : decode cX4_readSum 1 = .ok (.aload_n 1, 1) := by decide +kernel
theorem dX4_readSum_2 : decode cX4_readSum 2 = .ok (.iload_n 2, 1) := by decide +kernel
theorem dX4_readSum_3 : decode cX4_readSum 3 = .ok (.invokevirtual 58, 3) := by decide +kernel
theorem dX4_readSum_6 : decode cX4_readSum 6 = .ok (.iconst 0, 1) := by decide +kernel
theorem dX4_readSum_7 : decode cX4_readSum 7 = .ok (.istore_n 3, 1) := by decide +kernel
theorem dX4_readSum_8 : decode cX4_readSum 8 = .ok (.iload_n 3, 1) := by decide +kernel
theorem dX4_readSum_9 : decode cX4_readSum 9 = .ok (.sipush 150, 3) := by decide +kernel
theorem dX4_readSum_12 : decode cX4_readSum 12 = .ok (.if_icmp .ge 61, 3) := by decide +kernel
theorem dX4_readSum_15 : decode cX4_readSum 15 = .ok (.aload_n 1, 1) := by decide +kernel
theorem dX4_readSum_16 : decode cX4_readSum 16 = .ok (.bipush 43, 2) := by decide +kernel
theorem dX4_readSum_18 : decode cX4_readSum 18 = .ok (.invokevirtual 61, 3) := by decide +kernel
theorem dX4_readSum_21 : decode cX4_readSum 21 = .ok (.ifCond .eq 9, 3) := by decide +kernel
theorem dX4_readSum_24 : decode cX4_readSum 24 = .ok (.sipush 1010, 3) := by decide +kernel
theorem dX4_readSum_27 : decode cX4_readSum 27 = .ok (.goto 19, 3) := by decide +kernel
theorem dX4_readSum_30 : decode cX4_readSum 30 = .ok (.aload_n 1, 1) := by decide +kernel
theorem dX4_readSum_31 : decode cX4_readSum 31 = .ok (.bipush 45, 2) := by decide +kernel
theorem dX4_readSum_33 : decode cX4_readSum 33 = .ok (.invokevirtual 61, 3) := by decide +kernel
theorem dX4_readSum_36 : decode cX4_readSum 36 = .ok (.ifCond .eq 9, 3) := by decide +kernel
theorem dX4_readSum_39 : decode cX4_readSum 39 = .ok (.sipush 1011, 3) := by decide +kernel
theorem dX4_readSum_42 : decode cX4_readSum 42 = .ok (.goto 4, 3) := by decide +kernel
theorem dX4_readSum_45 : decode cX4_readSum 45 = .ok (.iconst (-1), 1) := by decide +kernel
theorem dX4_readSum_46 : decode cX4_readSum 46 = .ok (.istore 4, 2) := by decide +kernel
theorem dX4_readSum_48 : decode cX4_readSum 48 = .ok (.iload 4, 2) := by decide +kernel
theorem dX4_readSum_50 : decode cX4_readSum 50 = .ok (.iconst (-1), 1) := by decide +kernel
theorem dX4_readSum_51 : decode cX4_readSum 51 = .ok (.if_icmp .ne 4, 3) := by decide +kernel
theorem dX4_readSum_54 : decode cX4_readSum 54 = .ok (.return_, 1) := by decide +kernel
theorem dX4_readSum_55 : decode cX4_readSum 55 = .ok (.aload_n 0, 1) := by decide +kernel
theorem dX4_readSum_56 : decode cX4_readSum 56 = .ok (.aload_n 1, 1) := by decide +kernel
theorem dX4_readSum_57 : decode cX4_readSum 57 = .ok (.iload_n 2, 1) := by decide +kernel
theorem dX4_readSum_58 : decode cX4_readSum 58 = .ok (.invokevirtual 58, 3) := by decide +kernel
theorem dX4_readSum_61 : decode cX4_readSum 61 = .ok (.aload_n 0, 1) := by decide +kernel
theorem dX4_readSum_62 : decode cX4_readSum 62 = .ok (.iload 4, 2) := by decide +kernel
theorem dX4_readSum_64 : decode cX4_readSum 64 = .ok (.invokevirtual 65, 3) := by decide +kernel
theorem dX4_readSum_67 : decode cX4_readSum 67 = .ok (.iinc 3 1, 3) := by decide +kernel
theorem dX4_readSum_70 : decode cX4_readSum 70 = .ok (.goto (-62), 3) := by decide +kernel
theorem dX4_readSum_73 : decode cX4_readSum 73 = .ok (.return_, 1) := by decide +kernel
theorem dX4_readProduct_0 : decode cX4_readProduct 0 = .ok (.aload_n 0, 1) := by decide +kernel
theorem dX4_readProduct_1 : decode cX4_readProduct 1 = .ok (.aload_n 1, 1) := by decide +kernel
theorem dX4_readProduct_2 : decode cX4_readProduct 2 = .ok (.iload_n 2, 1) := by decide +kernel
theorem dX4_readProduct_3 : decode cX4_readProduct 3 = .ok (.invokevirtual 69, 3) := by decide +kernel
theorem dX4_readProduct_6 : decode cX4_readProduct 6 = .ok (.iconst 0, 1) := by decide +kernel
theorem dX4_readProduct_7 : decode cX4_readProduct 7 = .ok (.istore_n 3, 1) := by decide +kernel
theorem dX4_readProduct_8 : decode cX4_readProduct 8 = .ok (.iload_n 3, 1) := by decide +kernel
theorem dX4_readProduct_9 : decode cX4_readProduct 9 = .ok (.sipush 150, 3) := by decide +kernel
theorem dX4_readProduct_12 : decode cX4_readProduct 12 = .ok (.if_icmp .ge 76, 3) := by decide +kernel
theorem dX4_readProduct_15 : decode cX4_readProduct 15 = .ok (.aload_n 1, 1) := by decide +kernel
theorem dX4_readProduct_16 : decode cX4_readProduct 16 = .ok (.bipush 42, 2) := by decide +kernel
theorem dX4_readProduct_18 : decode cX4_readProduct 18 = .ok (.invokevirtual 61, 3) := by decide +kernel
theorem dX4_readProduct_21 : decode cX4_readProduct 21 = .ok (.ifCond .eq 9, 3) := by decide +kernel
theorem dX4_readProduct_24 : decode cX4_readProduct 24 = .ok (.sipush 1012, 3) := by decide +kernel
theorem dX4_readProduct_27 : decode cX4_readProduct 27 = .ok (.goto 34, 3) := by decide +kernel
theorem dX4_readProduct_30 : decode cX4_readProduct 30 = .ok (.aload_n 1, 1) := by decide +kernel
theorem dX4_readProduct_31 : decode cX4_readProduct 31 = .ok (.bipush 47, 2) := by decide +kernel
theorem dX4_readProduct_33 : decode cX4_readProduct 33 = .ok (.invokevirtual 61, 3) := by decide +kernel
theorem dX4_readProduct_36 : decode cX4_readProduct 36 = .ok (.ifCond .eq 9, 3) := by decide +kernel
theorem dX4_readProduct_39 : decode cX4_readProduct 39 = .ok (.sipush 1013, 3) := by decide +kernel
theorem dX4_readProduct_42 : decode cX4_readProduct 42 = .ok (.goto 19, 3) := by decide +kernel
theorem dX4_readProduct_45 : decode cX4_readProduct 45 = .ok (.aload_n 1, 1) := by decide +kernel
theorem dX4_readProduct_46 : decode cX4_readProduct 46 = .ok (.bipush 37, 2) := by decide +kernel
theorem dX4_readProduct_48 : decode cX4_readProduct 48 = .ok (.invokevirtual 61, 3) := by decide +kernel
theorem dX4_readProduct_51 : decode cX4_readProduct 51 = .ok (.ifCond .eq 9, 3) := by decide +kernel
theorem dX4_readProduct_54 : decode cX4_readProduct 54 = .ok (.sipush 1014, 3) := by decide +kernel
theorem dX4_readProduct_57 : decode cX4_readProduct 57 = .ok (.goto 4, 3) := by decide +kernel
theorem dX4_readProduct_60 : decode cX4_readProduct 60 = .ok (.iconst (-1), 1) := by decide +kernel
theorem dX4_readProduct_61 : decode cX4_readProduct 61 = .ok (.istore 4, 2) := by decide +kernel
theorem dX4_readProduct_63 : decode cX4_readProduct 63 = .ok (.iload 4, 2) := by decide +kernel
theorem dX4_readProduct_65 : decode cX4_readProduct 65 = .ok (.iconst (-1), 1) := by decide +kernel
theorem dX4_readProduct_66 : decode cX4_readProduct 66 = .ok (.if_icmp .ne 4, 3) := by decide +kernel
theorem dX4_readProduct_69 : decode cX4_readProduct 69 = .ok (.return_, 1) := by decide +kernel
theorem dX4_readProduct_70 : decode cX4_readProduct 70 = .ok (.aload_n 0, 1) := by decide +kernel
theorem dX4_readProduct_71 : decode cX4_readProduct 71 = .ok (.aload_n 1, 1) := by decide +kernel
theorem dX4_readProduct_72 : decode cX4_readProduct 72 = .ok (.iload_n 2, 1) := by decide +kernel
theorem dX4_readProduct_73 : decode cX4_readProduct 73 = .ok (.invokevirtual 69, 3) := by decide +kernel
theorem dX4_readProduct_76 : decode cX4_readProduct 76 = .ok (.aload_n 0, 1) := by decide +kernel
theorem dX4_readProduct_77 : decode cX4_readProduct 77 = .ok (.iload 4, 2) := by decide +kernel
theorem dX4_readProduct_79 : decode cX4_readProduct 79 = .ok (.invokevirtual 65, 3) := by decide +kernel
theorem dX4_readProduct_82 : decode cX4_readProduct 82 = .ok (.iinc 3 1, 3) := by decide +kernel
theorem dX4_readProduct_85 : decode cX4_readProduct 85 = .ok (.goto (-77), 3) := by decide +kernel
theorem dX4_readProduct_88 : decode cX4_readProduct 88 = .ok (.return_, 1) := by decide +kernel
theorem dX4_readUnit_0 : decode cX4_readUnit 0 = .ok (.aload_n 1, 1) := by decide +kernel
theorem dX4_readUnit_1 : decode cX4_readUnit 1 = .ok (.invokevirtual 41, 3) := by decide +kernel
theorem dX4_readUnit_4 : decode cX4_readUnit 4 = .ok (.istore_n 3, 1) := by decide +kernel
theorem dX4_readUnit_5 : decode cX4_readUnit 5 = .ok (.aload_n 1, 1) := by decide +kernel
theorem dX4_readUnit_6 : decode cX4_readUnit 6 = .ok (.invokevirtual 72, 3) := by decide +kernel
theorem dX4_readUnit_9 : decode cX4_readUnit 9 = .ok (.ifCond .eq 18, 3) := by decide +kernel
theorem dX4_readUnit_12 : decode cX4_readUnit 12 = .ok (.aload_n 0, 1) := by decide +kernel
theorem dX4_readUnit_13 : decode cX4_readUnit 13 = .ok (.aload_n 1, 1) := by decide +kernel
theorem dX4_readUnit_14 : decode cX4_readUnit 14 = .ok (.iconst 0, 1) := by decide +kernel
theorem dX4_readUnit_15 : decode cX4_readUnit 15 = .ok (.sipush 999, 3) := by decide +kernel
theorem dX4_readUnit_18 : decode cX4_readUnit 18 = .ok (.invokevirtual 75, 3) := by decide +kernel
theorem dX4_readUnit_21 : decode cX4_readUnit 21 = .ok (.invokevirtual 65, 3) := by decide +kernel
theorem dX4_readUnit_24 : decode cX4_readUnit 24 = .ok (.goto 97, 3) := by decide +kernel
theorem dX4_readUnit_27 : decode cX4_readUnit 27 = .ok (.aload_n 1, 1) := by decide +kernel
theorem dX4_readUnit_28 : decode cX4_readUnit 28 = .ok (.bipush 40, 2) := by decide +kernel
theorem dX4_readUnit_30 : decode cX4_readUnit 30 = .ok (.invokevirtual 61, 3) := by decide +kernel
theorem dX4_readUnit_33 : decode cX4_readUnit 33 = .ok (.ifCond .eq 13, 3) := by decide +kernel
theorem dX4_readUnit_36 : decode cX4_readUnit 36 = .ok (.aload_n 0, 1) := by decide +kernel
theorem dX4_readUnit_37 : decode cX4_readUnit 37 = .ok (.aload_n 1, 1) := by decide +kernel
theorem dX4_readUnit_38 : decode cX4_readUnit 38 = .ok (.iload_n 3, 1) := by decide +kernel
theorem dX4_readUnit_39 : decode cX4_readUnit 39 = .ok (.iload_n 2, 1) := by decide +kernel
theorem dX4_readUnit_40 : decode cX4_readUnit 40 = .ok (.invokevirtual 79, 3) := by decide +kernel
theorem dX4_readUnit_43 : decode cX4_readUnit 43 = .ok (.goto 78, 3) := by decide +kernel
theorem dX4_readUnit_46 : decode cX4_readUnit 46 = .ok (.aload_n 1, 1) := by decide +kernel
theorem dX4_readUnit_47 : decode cX4_readUnit 47 = .ok (.ldc 83, 2) := by decide +kernel
theorem dX4_readUnit_49 : decode cX4_readUnit 49 = .ok (.invokevirtual 85, 3) := by decide +kernel
theorem dX4_readUnit_52 : decode cX4_readUnit 52 = .ok (.ifCond .eq 16, 3) := by decide +kernel
theorem dX4_readUnit_55 : decode cX4_readUnit 55 = .ok (.aload_n 0, 1) := by decide +kernel
theorem dX4_readUnit_56 : decode cX4_readUnit 56 = .ok (.aload_n 1, 1) := by decide +kernel
theorem dX4_readUnit_57 : decode cX4_readUnit 57 = .ok (.iload_n 3, 1) := by decide +kernel
theorem dX4_readUnit_58 : decode cX4_readUnit 58 = .ok (.iload_n 2, 1) := by decide +kernel
theorem dX4_readUnit_59 : decode cX4_readUnit 59 = .ok (.sipush 1015, 3) := by decide +kernel
theorem dX4_readUnit_62 : decode cX4_readUnit 62 = .ok (.invokevirtual 89, 3) := by decide +kernel
theorem dX4_readUnit_65 : decode cX4_readUnit 65 = .ok (.goto 56, 3) := by decide +kernel
theorem dX4_readUnit_68 : decode cX4_readUnit 68 = .ok (.aload_n 1, 1) := by decide +kernel
theorem dX4_readUnit_69 : decode cX4_readUnit 69 = .ok (.ldc 93, 2) := by decide +kernel
theorem dX4_readUnit_71 : decode cX4_readUnit 71 = .ok (.invokevirtual 85, 3) := by decide +kernel
theorem dX4_readUnit_74 : decode cX4_readUnit 74 = .ok (.ifCond .eq 16, 3) := by decide +kernel
theorem dX4_readUnit_77 : decode cX4_readUnit 77 = .ok (.aload_n 0, 1) := by decide +kernel
theorem dX4_readUnit_78 : decode cX4_readUnit 78 = .ok (.aload_n 1, 1) := by decide +kernel
theorem dX4_readUnit_79 : decode cX4_readUnit 79 = .ok (.iload_n 3, 1) := by decide +kernel
theorem dX4_readUnit_80 : decode cX4_readUnit 80 = .ok (.iload_n 2, 1) := by decide +kernel
theorem dX4_readUnit_81 : decode cX4_readUnit 81 = .ok (.sipush 1016, 3) := by decide +kernel
theorem dX4_readUnit_84 : decode cX4_readUnit 84 = .ok (.invokevirtual 89, 3) := by decide +kernel
theorem dX4_readUnit_87 : decode cX4_readUnit 87 = .ok (.goto 34, 3) := by decide +kernel
theorem dX4_readUnit_90 : decode cX4_readUnit 90 = .ok (.aload_n 1, 1) := by decide +kernel
theorem dX4_readUnit_91 : decode cX4_readUnit 91 = .ok (.invokestatic 95, 3) := by decide +kernel
theorem dX4_readUnit_94 : decode cX4_readUnit 94 = .ok (.istore 4, 2) := by decide +kernel
theorem dX4_readUnit_96 : decode cX4_readUnit 96 = .ok (.iload 4, 2) := by decide +kernel
theorem dX4_readUnit_98 : decode cX4_readUnit 98 = .ok (.iconst (-1), 1) := by decide +kernel
theorem dX4_readUnit_99 : decode cX4_readUnit 99 = .ok (.if_icmp .ne 12, 3) := by decide +kernel
theorem dX4_readUnit_102 : decode cX4_readUnit 102 = .ok (.aload_n 1, 1) := by decide +kernel
theorem dX4_readUnit_103 : decode cX4_readUnit 103 = .ok (.iconst 1, 1) := by decide +kernel
theorem dX4_readUnit_104 : decode cX4_readUnit 104 = .ok (.iload_n 3, 1) := by decide +kernel
theorem dX4_readUnit_105 : decode cX4_readUnit 105 = .ok (.invokevirtual 45, 3) := by decide +kernel
theorem dX4_readUnit_108 : decode cX4_readUnit 108 = .ok (.goto 13, 3) := by decide +kernel
theorem dX4_readUnit_111 : decode cX4_readUnit 111 = .ok (.aload_n 0, 1) := by decide +kernel
theorem dX4_readUnit_112 : decode cX4_readUnit 112 = .ok (.sipush 1000, 3) := by decide +kernel
theorem dX4_readUnit_115 : decode cX4_readUnit 115 = .ok (.iload 4, 2) := by decide +kernel
theorem dX4_readUnit_117 : decode cX4_readUnit 117 = .ok (.iadd, 1) := by decide +kernel
theorem dX4_readUnit_118 : decode cX4_readUnit 118 = .ok (.invokevirtual 65, 3) := by decide +kernel
theorem dX4_readUnit_121 : decode cX4_readUnit 121 = .ok (.return_, 1) := by decide +kernel
theorem dX4_readBracket_0 : decode cX4_readBracket 0 = .ok (.iload_n 3, 1) := by decide +kernel
theorem dX4_readBracket_1 : decode cX4_readBracket 1 = .ok (.bipush 6, 2) := by decide +kernel
theorem dX4_readBracket_3 : decode cX4_readBracket 3 = .ok (.if_icmp .lt 10, 3) := by decide +kernel
theorem dX4_readBracket_6 : decode cX4_readBracket 6 = .ok (.aload_n 1, 1) := by decide +kernel
theorem dX4_readBracket_7 : decode cX4_readBracket 7 = .ok (.iconst 3, 1) := by decide +kernel
theorem dX4_readBracket_8 : decode cX4_readBracket 8 = .ok (.iload_n 2, 1) := by decide +kernel
theorem dX4_readBracket_9 : decode cX4_readBracket 9 = .ok (.invokevirtual 45, 3) := by decide +kernel
theorem dX4_readBracket_12 : decode cX4_readBracket 12 = .ok (.return_, 1) := by decide +kernel
theorem dX4_readBracket_13 : decode cX4_readBracket 13 = .ok (.aload_n 0, 1) := by decide +kernel
theorem dX4_readBracket_14 : decode cX4_readBracket 14 = .ok (.aload_n 1, 1) := by decide +kernel
theorem dX4_readBracket_15 : decode cX4_readBracket 15 = .ok (.iload_n 3, 1) := by decide +kernel
theorem dX4_readBracket_16 : decode cX4_readBracket 16 = .ok (.iconst 1, 1) := by decide +kernel
theorem dX4_readBracket_17 : decode cX4_readBracket 17 = .ok (.iadd, 1) := by decide +kernel
theorem dX4_readBracket_18 : decode cX4_readBracket 18 = .ok (.invokevirtual 31, 3) := by decide +kernel
theorem dX4_readBracket_21 : decode cX4_readBracket 21 = .ok (.aload_n 1, 1) := by decide +kernel
theorem dX4_readBracket_22 : decode cX4_readBracket 22 = .ok (.bipush 41, 2) := by decide +kernel
theorem dX4_readBracket_24 : decode cX4_readBracket 24 = .ok (.invokevirtual 99, 3) := by decide +kernel
theorem dX4_readBracket_27 : decode cX4_readBracket 27 = .ok (.return_, 1) := by decide +kernel
theorem dX4_readPair_0 : decode cX4_readPair 0 = .ok (.iload_n 3, 1) := by decide +kernel
theorem dX4_readPair_1 : decode cX4_readPair 1 = .ok (.bipush 6, 2) := by decide +kernel
theorem dX4_readPair_3 : decode cX4_readPair 3 = .ok (.if_icmp .lt 10, 3) := by decide +kernel
theorem dX4_readPair_6 : decode cX4_readPair 6 = .ok (.aload_n 1, 1) := by decide +kernel
theorem dX4_readPair_7 : decode cX4_readPair 7 = .ok (.iconst 3, 1) := by decide +kernel
theorem dX4_readPair_8 : decode cX4_readPair 8 = .ok (.iload_n 2, 1) := by decide +kernel
theorem dX4_readPair_9 : decode cX4_readPair 9 = .ok (.invokevirtual 45, 3) := by decide +kernel
theorem dX4_readPair_12 : decode cX4_readPair 12 = .ok (.return_, 1) := by decide +kernel
theorem dX4_readPair_13 : decode cX4_readPair 13 = .ok (.aload_n 1, 1) := by decide +kernel
theorem dX4_readPair_14 : decode cX4_readPair 14 = .ok (.bipush 91, 2) := by decide +kernel
theorem dX4_readPair_16 : decode cX4_readPair 16 = .ok (.invokevirtual 99, 3) := by decide +kernel
theorem dX4_readPair_19 : decode cX4_readPair 19 = .ok (.aload_n 0, 1) := by decide +kernel
theorem dX4_readPair_20 : decode cX4_readPair 20 = .ok (.aload_n 1, 1) := by decide +kernel
theorem dX4_readPair_21 : decode cX4_readPair 21 = .ok (.iload_n 3, 1) := by decide +kernel
theorem dX4_readPair_22 : decode cX4_readPair 22 = .ok (.iconst 1, 1) := by decide +kernel
theorem dX4_readPair_23 : decode cX4_readPair 23 = .ok (.iadd, 1) := by decide +kernel
theorem dX4_readPair_24 : decode cX4_readPair 24 = .ok (.invokevirtual 31, 3) := by decide +kernel
theorem dX4_readPair_27 : decode cX4_readPair 27 = .ok (.aload_n 1, 1) := by decide +kernel
theorem dX4_readPair_28 : decode cX4_readPair 28 = .ok (.bipush 44, 2) := by decide +kernel
theorem dX4_readPair_30 : decode cX4_readPair 30 = .ok (.invokevirtual 99, 3) := by decide +kernel
theorem dX4_readPair_33 : decode cX4_readPair 33 = .ok (.aload_n 0, 1) := by decide +kernel
theorem dX4_readPair_34 : decode cX4_readPair 34 = .ok (.aload_n 1, 1) := by decide +kernel
theorem dX4_readPair_35 : decode cX4_readPair 35 = .ok (.iload_n 3, 1) := by decide +kernel
theorem dX4_readPair_36 : decode cX4_readPair 36 = .ok (.iconst 1, 1) := by decide +kernel
theorem dX4_readPair_37 : decode cX4_readPair 37 = .ok (.iadd, 1) := by decide +kernel
theorem dX4_readPair_38 : decode cX4_readPair 38 = .ok (.invokevirtual 31, 3) := by decide +kernel
theorem dX4_readPair_41 : decode cX4_readPair 41 = .ok (.aload_n 1, 1) := by decide +kernel
theorem dX4_readPair_42 : decode cX4_readPair 42 = .ok (.bipush 93, 2) := by decide +kernel
theorem dX4_readPair_44 : decode cX4_readPair 44 = .ok (.invokevirtual 99, 3) := by decide +kernel
theorem dX4_readPair_47 : decode cX4_readPair 47 = .ok (.aload_n 0, 1) := by decide +kernel
theorem dX4_readPair_48 : decode cX4_readPair 48 = .ok (.iload 4, 2) := by decide +kernel
theorem dX4_readPair_50 : decode cX4_readPair 50 = .ok (.invokevirtual 65, 3) := by decide +kernel
theorem dX4_readPair_53 : decode cX4_readPair 53 = .ok (.return_, 1) := by decide +kernel
theorem dX4_readVariable_0 : decode cX4_readVariable 0 = .ok (.aload_n 0, 1) := by decide +kernel
theorem dX4_readVariable_1 : decode cX4_readVariable 1 = .ok (.ldc 103, 2) := by decide +kernel
theorem dX4_readVariable_3 : decode cX4_readVariable 3 = .ok (.invokevirtual 85, 3) := by decide +kernel
theorem dX4_readVariable_6 : decode cX4_readVariable 6 = .ok (.ifCond .eq 5, 3) := by decide +kernel
theorem dX4_readVariable_9 : decode cX4_readVariable 9 = .ok (.iconst 0, 1) := by decide +kernel
theorem dX4_readVariable_10 : decode cX4_readVariable 10 = .ok (.ireturn, 1) := by decide +kernel
theorem dX4_readVariable_11 : decode cX4_readVariable 11 = .ok (.aload_n 0, 1) := by decide +kernel
theorem dX4_readVariable_12 : decode cX4_readVariable 12 = .ok (.ldc 105, 2) := by decide +kernel
theorem dX4_readVariable_14 : decode cX4_readVariable 14 = .ok (.invokevirtual 85, 3) := by decide +kernel
theorem dX4_readVariable_17 : decode cX4_readVariable 17 = .ok (.ifCond .eq 5, 3) := by decide +kernel
theorem dX4_readVariable_20 : decode cX4_readVariable 20 = .ok (.iconst 1, 1) := by decide +kernel
theorem dX4_readVariable_21 : decode cX4_readVariable 21 = .ok (.ireturn, 1) := by decide +kernel
theorem dX4_readVariable_22 : decode cX4_readVariable 22 = .ok (.aload_n 0, 1) := by decide +kernel
theorem dX4_readVariable_23 : decode cX4_readVariable 23 = .ok (.ldc 107, 2) := by decide +kernel
theorem dX4_readVariable_25 : decode cX4_readVariable 25 = .ok (.invokevirtual 85, 3) := by decide +kernel
theorem dX4_readVariable_28 : decode cX4_readVariable 28 = .ok (.ifCond .eq 5, 3) := by decide +kernel
theorem dX4_readVariable_31 : decode cX4_readVariable 31 = .ok (.iconst 2, 1) := by decide +kernel
theorem dX4_readVariable_32 : decode cX4_readVariable 32 = .ok (.ireturn, 1) := by decide +kernel
theorem dX4_readVariable_33 : decode cX4_readVariable 33 = .ok (.aload_n 0, 1) := by decide +kernel
theorem dX4_readVariable_34 : decode cX4_readVariable 34 = .ok (.ldc 109, 2) := by decide +kernel
theorem dX4_readVariable_36 : decode cX4_readVariable 36 = .ok (.invokevirtual 85, 3) := by decide +kernel
theorem dX4_readVariable_39 : decode cX4_readVariable 39 = .ok (.ifCond .eq 5, 3) := by decide +kernel
theorem dX4_readVariable_42 : decode cX4_readVariable 42 = .ok (.iconst 3, 1) := by decide +kernel
theorem dX4_readVariable_43 : decode cX4_readVariable 43 = .ok (.ireturn, 1) := by decide +kernel
theorem dX4_readVariable_44 : decode cX4_readVariable 44 = .ok (.aload_n 0, 1) := by decide +kernel
theorem dX4_readVariable_45 : decode cX4_readVariable 45 = .ok (.ldc 111, 2) := by decide +kernel
theorem dX4_readVariable_47 : decode cX4_readVariable 47 = .ok (.invokevirtual 85, 3) := by decide +kernel
theorem dX4_readVariable_50 : decode cX4_readVariable 50 = .ok (.ifCond .eq 5, 3) := by decide +kernel
theorem dX4_readVariable_53 : decode cX4_readVariable 53 = .ok (.iconst 4, 1) := by decide +kernel
theorem dX4_readVariable_54 : decode cX4_readVariable 54 = .ok (.ireturn, 1) := by decide +kernel
theorem dX4_readVariable_55 : decode cX4_readVariable 55 = .ok (.aload_n 0, 1) := by decide +kernel
theorem dX4_readVariable_56 : decode cX4_readVariable 56 = .ok (.ldc 113, 2) := by decide +kernel
theorem dX4_readVariable_58 : decode cX4_readVariable 58 = .ok (.invokevirtual 85, 3) := by decide +kernel
theorem dX4_readVariable_61 : decode cX4_readVariable 61 = .ok (.ifCond .eq 5, 3) := by decide +kernel
theorem dX4_readVariable_64 : decode cX4_readVariable 64 = .ok (.iconst 5, 1) := by decide +kernel
theorem dX4_readVariable_65 : decode cX4_readVariable 65 = .ok (.ireturn, 1) := by decide +kernel
theorem dX4_readVariable_66 : decode cX4_readVariable 66 = .ok (.aload_n 0, 1) := by decide +kernel
theorem dX4_readVariable_67 : decode cX4_readVariable 67 = .ok (.ldc 115, 2) := by decide +kernel
theorem dX4_readVariable_69 : decode cX4_readVariable 69 = .ok (.invokevirtual 85, 3) := by decide +kernel
theorem dX4_readVariable_72 : decode cX4_readVariable 72 = .ok (.ifCond .eq 8, 3) := by decide +kernel
theorem dX4_readVariable_75 : decode cX4_readVariable 75 = .ok (.bipush 6, 2) := by decide +kernel
theorem dX4_readVariable_77 : decode cX4_readVariable 77 = .ok (.goto 4, 3) := by decide +kernel
theorem dX4_readVariable_80 : decode cX4_readVariable 80 = .ok (.iconst (-1), 1) := by decide +kernel
theorem dX4_readVariable_81 : decode cX4_readVariable 81 = .ok (.ireturn, 1) := by decide +kernel
theorem dX4_put_0 : decode cX4_put 0 = .ok (.aload_n 0, 1) := by decide +kernel
theorem dX4_put_1 : decode cX4_put 1 = .ok (.getfield 28, 3) := by decide +kernel
theorem dX4_put_4 : decode cX4_put 4 = .ok (.aload_n 0, 1) := by decide +kernel
theorem dX4_put_5 : decode cX4_put 5 = .ok (.getfield 15, 3) := by decide +kernel
theorem dX4_put_8 : decode cX4_put 8 = .ok (.arraylength, 1) := by decide +kernel
theorem dX4_put_9 : decode cX4_put 9 = .ok (.if_icmp .ge 23, 3) := by decide +kernel
theorem dX4_put_12 : decode cX4_put 12 = .ok (.aload_n 0, 1) := by decide +kernel
theorem dX4_put_13 : decode cX4_put 13 = .ok (.getfield 15, 3) := by decide +kernel
theorem dX4_put_16 : decode cX4_put 16 = .ok (.aload_n 0, 1) := by decide +kernel
theorem dX4_put_17 : decode cX4_put 17 = .ok (.getfield 28, 3) := by decide +kernel
theorem dX4_put_20 : decode cX4_put 20 = .ok (.iload_n 1, 1) := by decide +kernel
theorem dX4_put_21 : decode cX4_put 21 = .ok (.iastore, 1) := by decide +kernel
theorem dX4_put_22 : decode cX4_put 22 = .ok (.aload_n 0, 1) := by decide +kernel
theorem dX4_put_23 : decode cX4_put 23 = .ok (.dup, 1) := by decide +kernel
theorem dX4_put_24 : decode cX4_put 24 = .ok (.getfield 28, 3) := by decide +kernel
theorem dX4_put_27 : decode cX4_put 27 = .ok (.iconst 1, 1) := by decide +kernel
theorem dX4_put_28 : decode cX4_put 28 = .ok (.iadd, 1) := by decide +kernel
theorem dX4_put_29 : decode cX4_put 29 = .ok (.putfield 28, 3) := by decide +kernel
theorem dX4_put_32 : decode cX4_put 32 = .ok (.return_, 1) := by decide +kernel
theorem dX4_growth_0 : decode cX4_growth 0 = .ok (.aload_n 0, 1) := by decide +kernel
theorem dX4_growth_1 : decode cX4_growth 1 = .ok (.getfield 18, 3) := by decide +kernel
theorem dX4_growth_4 : decode cX4_growth 4 = .ok (.iconst 0, 1) := by decide +kernel
theorem dX4_growth_5 : decode cX4_growth 5 = .ok (.iload_n 1, 1) := by decide +kernel
theorem dX4_growth_6 : decode cX4_growth 6 = .ok (.iastore, 1) := by decide +kernel
theorem dX4_growth_7 : decode cX4_growth 7 = .ok (.aload_n 0, 1) := by decide +kernel
theorem dX4_growth_8 : decode cX4_growth 8 = .ok (.getfield 18, 3) := by decide +kernel
theorem dX4_growth_11 : decode cX4_growth 11 = .ok (.iconst 1, 1) := by decide +kernel
theorem dX4_growth_12 : decode cX4_growth 12 = .ok (.iload_n 2, 1) := by decide +kernel
theorem dX4_growth_13 : decode cX4_growth 13 = .ok (.iastore, 1) := by decide +kernel
theorem dX4_growth_14 : decode cX4_growth 14 = .ok (.aload_n 0, 1) := by decide +kernel
theorem dX4_growth_15 : decode cX4_growth 15 = .ok (.getfield 18, 3) := by decide +kernel
theorem dX4_growth_18 : decode cX4_growth 18 = .ok (.iconst 2, 1) := by decide +kernel
theorem dX4_growth_19 : decode cX4_growth 19 = .ok (.iload_n 3, 1) := by decide +kernel
theorem dX4_growth_20 : decode cX4_growth 20 = .ok (.iastore, 1) := by decide +kernel
theorem dX4_growth_21 : decode cX4_growth 21 = .ok (.aload_n 0, 1) := by decide +kernel
theorem dX4_growth_22 : decode cX4_growth 22 = .ok (.getfield 18, 3) := by decide +kernel
theorem dX4_growth_25 : decode cX4_growth 25 = .ok (.iconst 3, 1) := by decide +kernel
theorem dX4_growth_26 : decode cX4_growth 26 = .ok (.iload 4, 2) := by decide +kernel
theorem dX4_growth_28 : decode cX4_growth 28 = .ok (.iastore, 1) := by decide +kernel
theorem dX4_growth_29 : decode cX4_growth 29 = .ok (.aload_n 0, 1) := by decide +kernel
theorem dX4_growth_30 : decode cX4_growth 30 = .ok (.getfield 18, 3) := by decide +kernel
theorem dX4_growth_33 : decode cX4_growth 33 = .ok (.iconst 4, 1) := by decide +kernel
theorem dX4_growth_34 : decode cX4_growth 34 = .ok (.iload 5, 2) := by decide +kernel
theorem dX4_growth_36 : decode cX4_growth 36 = .ok (.iastore, 1) := by decide +kernel
theorem dX4_growth_37 : decode cX4_growth 37 = .ok (.aload_n 0, 1) := by decide +kernel
theorem dX4_growth_38 : decode cX4_growth 38 = .ok (.getfield 18, 3) := by decide +kernel
theorem dX4_growth_41 : decode cX4_growth 41 = .ok (.iconst 5, 1) := by decide +kernel
theorem dX4_growth_42 : decode cX4_growth 42 = .ok (.iload 6, 2) := by decide +kernel
theorem dX4_growth_44 : decode cX4_growth 44 = .ok (.iastore, 1) := by decide +kernel
theorem dX4_growth_45 : decode cX4_growth 45 = .ok (.aload_n 0, 1) := by decide +kernel
theorem dX4_growth_46 : decode cX4_growth 46 = .ok (.getfield 18, 3) := by decide +kernel
theorem dX4_growth_49 : decode cX4_growth 49 = .ok (.bipush 6, 2) := by decide +kernel
theorem dX4_growth_51 : decode cX4_growth 51 = .ok (.iload 7, 2) := by decide +kernel
theorem dX4_growth_53 : decode cX4_growth 53 = .ok (.iastore, 1) := by decide +kernel
theorem dX4_growth_54 : decode cX4_growth 54 = .ok (.aload_n 0, 1) := by decide +kernel
theorem dX4_growth_55 : decode cX4_growth 55 = .ok (.getfield 24, 3) := by decide +kernel
theorem dX4_growth_58 : decode cX4_growth 58 = .ok (.ifCond .ne 7, 3) := by decide +kernel
theorem dX4_growth_61 : decode cX4_growth 61 = .ok (.iload_n 2, 1) := by decide +kernel
theorem dX4_growth_62 : decode cX4_growth 62 = .ok (.goto 7, 3) := by decide +kernel
theorem dX4_growth_65 : decode cX4_growth 65 = .ok (.aload_n 0, 1) := by decide +kernel
theorem dX4_growth_66 : decode cX4_growth 66 = .ok (.invokevirtual 117, 3) := by decide +kernel
theorem dX4_growth_69 : decode cX4_growth 69 = .ok (.istore 8, 2) := by decide +kernel
theorem dX4_growth_71 : decode cX4_growth 71 = .ok (.iconst 0, 1) := by decide +kernel
theorem dX4_growth_72 : decode cX4_growth 72 = .ok (.bipush 60, 2) := by decide +kernel
theorem dX4_growth_74 : decode cX4_growth 74 = .ok (.iload 8, 2) := by decide +kernel
theorem dX4_growth_76 : decode cX4_growth 76 = .ok (.invokestatic 120, 3) := by decide +kernel
theorem dX4_growth_79 : decode cX4_growth 79 = .ok (.invokestatic 125, 3) := by decide +kernel
theorem dX4_growth_82 : decode cX4_growth 82 = .ok (.ireturn, 1) := by decide +kernel
theorem dX4_value_0 : decode cX4_value 0 = .ok (.iconst 0, 1) := by decide +kernel
theorem dX4_value_1 : decode cX4_value 1 = .ok (.istore_n 1, 1) := by decide +kernel
theorem dX4_value_2 : decode cX4_value 2 = .ok (.iconst 0, 1) := by decide +kernel
theorem dX4_value_3 : decode cX4_value 3 = .ok (.istore_n 2, 1) := by decide +kernel
theorem dX4_value_4 : decode cX4_value 4 = .ok (.iload_n 2, 1) := by decide +kernel
theorem dX4_value_5 : decode cX4_value 5 = .ok (.aload_n 0, 1) := by decide +kernel
theorem dX4_value_6 : decode cX4_value 6 = .ok (.getfield 24, 3) := by decide +kernel
theorem dX4_value_9 : decode cX4_value 9 = .ok (.if_icmp .ge 98, 3) := by decide +kernel
theorem dX4_value_12 : decode cX4_value 12 = .ok (.aload_n 0, 1) := by decide +kernel
theorem dX4_value_13 : decode cX4_value 13 = .ok (.getfield 9, 3) := by decide +kernel
theorem dX4_value_16 : decode cX4_value 16 = .ok (.iload_n 2, 1) := by decide +kernel
theorem dX4_value_17 : decode cX4_value 17 = .ok (.iaload, 1) := by decide +kernel
theorem dX4_value_18 : decode cX4_value 18 = .ok (.istore_n 3, 1) := by decide +kernel
theorem dX4_value_19 : decode cX4_value 19 = .ok (.iload_n 3, 1) := by decide +kernel
theorem dX4_value_20 : decode cX4_value 20 = .ok (.sipush 1010, 3) := by decide +kernel
theorem dX4_value_23 : decode cX4_value 23 = .ok (.if_icmp .lt 40, 3) := by decide +kernel
theorem dX4_value_26 : decode cX4_value 26 = .ok (.iload_n 1, 1) := by decide +kernel
theorem dX4_value_27 : decode cX4_value 27 = .ok (.iconst 2, 1) := by decide +kernel
theorem dX4_value_28 : decode cX4_value 28 = .ok (.if_icmp .lt 73, 3) := by decide +kernel
theorem dX4_value_31 : decode cX4_value 31 = .ok (.iinc 1 (-1), 3) := by decide +kernel
theorem dX4_value_34 : decode cX4_value 34 = .ok (.aload_n 0, 1) := by decide +kernel
theorem dX4_value_35 : decode cX4_value 35 = .ok (.getfield 21, 3) := by decide +kernel
theorem dX4_value_38 : decode cX4_value 38 = .ok (.iload_n 1, 1) := by decide +kernel
theorem dX4_value_39 : decode cX4_value 39 = .ok (.iconst 1, 1) := by decide +kernel
theorem dX4_value_40 : decode cX4_value 40 = .ok (.isub, 1) := by decide +kernel
theorem dX4_value_41 : decode cX4_value 41 = .ok (.iload_n 3, 1) := by decide +kernel
theorem dX4_value_42 : decode cX4_value 42 = .ok (.aload_n 0, 1) := by decide +kernel
theorem dX4_value_43 : decode cX4_value 43 = .ok (.getfield 21, 3) := by decide +kernel
theorem dX4_value_46 : decode cX4_value 46 = .ok (.iload_n 1, 1) := by decide +kernel
theorem dX4_value_47 : decode cX4_value 47 = .ok (.iconst 1, 1) := by decide +kernel
theorem dX4_value_48 : decode cX4_value 48 = .ok (.isub, 1) := by decide +kernel
theorem dX4_value_49 : decode cX4_value 49 = .ok (.iaload, 1) := by decide +kernel
theorem dX4_value_50 : decode cX4_value 50 = .ok (.aload_n 0, 1) := by decide +kernel
theorem dX4_value_51 : decode cX4_value 51 = .ok (.getfield 21, 3) := by decide +kernel
theorem dX4_value_54 : decode cX4_value 54 = .ok (.iload_n 1, 1) := by decide +kernel
theorem dX4_value_55 : decode cX4_value 55 = .ok (.iaload, 1) := by decide +kernel
theorem dX4_value_56 : decode cX4_value 56 = .ok (.invokestatic 128, 3) := by decide +kernel
theorem dX4_value_59 : decode cX4_value 59 = .ok (.iastore, 1) := by decide +kernel
theorem dX4_value_60 : decode cX4_value 60 = .ok (.goto 41, 3) := by decide +kernel
theorem dX4_value_63 : decode cX4_value 63 = .ok (.iload_n 1, 1) := by decide +kernel
theorem dX4_value_64 : decode cX4_value 64 = .ok (.aload_n 0, 1) := by decide +kernel
theorem dX4_value_65 : decode cX4_value 65 = .ok (.getfield 21, 3) := by decide +kernel
theorem dX4_value_68 : decode cX4_value 68 = .ok (.arraylength, 1) := by decide +kernel
theorem dX4_value_69 : decode cX4_value 69 = .ok (.if_icmp .ge 32, 3) := by decide +kernel
theorem dX4_value_72 : decode cX4_value 72 = .ok (.aload_n 0, 1) := by decide +kernel
theorem dX4_value_73 : decode cX4_value 73 = .ok (.getfield 21, 3) := by decide +kernel
theorem dX4_value_76 : decode cX4_value 76 = .ok (.iload_n 1, 1) := by decide +kernel
theorem dX4_value_77 : decode cX4_value 77 = .ok (.iload_n 3, 1) := by decide +kernel
theorem dX4_value_78 : decode cX4_value 78 = .ok (.sipush 1000, 3) := by decide +kernel
theorem dX4_value_81 : decode cX4_value 81 = .ok (.if_icmp .ge 7, 3) := by decide +kernel
theorem dX4_value_84 : decode cX4_value 84 = .ok (.iload_n 3, 1) := by decide +kernel
theorem dX4_value_85 : decode cX4_value 85 = .ok (.goto 12, 3) := by decide +kernel
theorem dX4_value_88 : decode cX4_value 88 = .ok (.aload_n 0, 1) := by decide +kernel
theorem dX4_value_89 : decode cX4_value 89 = .ok (.iload_n 3, 1) := by decide +kernel
theorem dX4_value_90 : decode cX4_value 90 = .ok (.sipush 1000, 3) := by decide +kernel
theorem dX4_value_93 : decode cX4_value 93 = .ok (.isub, 1) := by decide +kernel
theorem dX4_value_94 : decode cX4_value 94 = .ok (.invokevirtual 132, 3) := by decide +kernel
theorem dX4_value_97 : decode cX4_value 97 = .ok (.iastore, 1) := by decide +kernel
theorem dX4_value_98 : decode cX4_value 98 = .ok (.iinc 1 1, 3) := by decide +kernel
theorem dX4_value_101 : decode cX4_value 101 = .ok (.iinc 2 1, 3) := by decide +kernel
theorem dX4_value_104 : decode cX4_value 104 = .ok (.goto (-100), 3) := by decide +kernel
theorem dX4_value_107 : decode cX4_value 107 = .ok (.aload_n 0, 1) := by decide +kernel
theorem dX4_value_108 : decode cX4_value 108 = .ok (.getfield 21, 3) := by decide +kernel
theorem dX4_value_111 : decode cX4_value 111 = .ok (.iconst 0, 1) := by decide +kernel
theorem dX4_value_112 : decode cX4_value 112 = .ok (.iaload, 1) := by decide +kernel
theorem dX4_value_113 : decode cX4_value 113 = .ok (.ireturn, 1) := by decide +kernel
theorem dX4_variable_0 : decode cX4_variable 0 = .ok (.iload_n 1, 1) := by decide +kernel
theorem dX4_variable_1 : decode cX4_variable 1 = .ok (.ifCond .lt 18, 3) := by decide +kernel
theorem dX4_variable_4 : decode cX4_variable 4 = .ok (.iload_n 1, 1) := by decide +kernel
theorem dX4_variable_5 : decode cX4_variable 5 = .ok (.bipush 7, 2) := by decide +kernel
theorem dX4_variable_7 : decode cX4_variable 7 = .ok (.if_icmp .ge 12, 3) := by decide +kernel
theorem dX4_variable_10 : decode cX4_variable 10 = .ok (.aload_n 0, 1) := by decide +kernel
theorem dX4_variable_11 : decode cX4_variable 11 = .ok (.getfield 18, 3) := by decide +kernel
theorem dX4_variable_14 : decode cX4_variable 14 = .ok (.iload_n 1, 1) := by decide +kernel
theorem dX4_variable_15 : decode cX4_variable 15 = .ok (.iaload, 1) := by decide +kernel
theorem dX4_variable_16 : decode cX4_variable 16 = .ok (.goto 4, 3) := by decide +kernel
theorem dX4_variable_19 : decode cX4_variable 19 = .ok (.iconst 0, 1) := by decide +kernel
theorem dX4_variable_20 : decode cX4_variable 20 = .ok (.ireturn, 1) := by decide +kernel
theorem dX4_joined_0 : decode cX4_joined 0 = .ok (.iload_n 0, 1) := by decide +kernel
theorem dX4_joined_1 : decode cX4_joined 1 = .ok (.tableswitch 86 1010 1015 #[39, 43, 47, 51, 63, 75], 39) := by decide +kernel
theorem dX4_joined_40 : decode cX4_joined 40 = .ok (.iload_n 1, 1) := by decide +kernel
theorem dX4_joined_41 : decode cX4_joined 41 = .ok (.iload_n 2, 1) := by decide +kernel
theorem dX4_joined_42 : decode cX4_joined 42 = .ok (.iadd, 1) := by decide +kernel
theorem dX4_joined_43 : decode cX4_joined 43 = .ok (.ireturn, 1) := by decide +kernel
theorem dX4_joined_44 : decode cX4_joined 44 = .ok (.iload_n 1, 1) := by decide +kernel
theorem dX4_joined_45 : decode cX4_joined 45 = .ok (.iload_n 2, 1) := by decide +kernel
theorem dX4_joined_46 : decode cX4_joined 46 = .ok (.isub, 1) := by decide +kernel
theorem dX4_joined_47 : decode cX4_joined 47 = .ok (.ireturn, 1) := by decide +kernel
theorem dX4_joined_48 : decode cX4_joined 48 = .ok (.iload_n 1, 1) := by decide +kernel
theorem dX4_joined_49 : decode cX4_joined 49 = .ok (.iload_n 2, 1) := by decide +kernel
theorem dX4_joined_50 : decode cX4_joined 50 = .ok (.imul, 1) := by decide +kernel
theorem dX4_joined_51 : decode cX4_joined 51 = .ok (.ireturn, 1) := by decide +kernel
theorem dX4_joined_52 : decode cX4_joined 52 = .ok (.iload_n 2, 1) := by decide +kernel
theorem dX4_joined_53 : decode cX4_joined 53 = .ok (.ifCond .ne 7, 3) := by decide +kernel
theorem dX4_joined_56 : decode cX4_joined 56 = .ok (.iconst 0, 1) := by decide +kernel
theorem dX4_joined_57 : decode cX4_joined 57 = .ok (.goto 6, 3) := by decide +kernel
theorem dX4_joined_60 : decode cX4_joined 60 = .ok (.iload_n 1, 1) := by decide +kernel
theorem dX4_joined_61 : decode cX4_joined 61 = .ok (.iload_n 2, 1) := by decide +kernel
theorem dX4_joined_62 : decode cX4_joined 62 = .ok (.idiv, 1) := by decide +kernel
theorem dX4_joined_63 : decode cX4_joined 63 = .ok (.ireturn, 1) := by decide +kernel
theorem dX4_joined_64 : decode cX4_joined 64 = .ok (.iload_n 2, 1) := by decide +kernel
theorem dX4_joined_65 : decode cX4_joined 65 = .ok (.ifCond .ne 7, 3) := by decide +kernel
theorem dX4_joined_68 : decode cX4_joined 68 = .ok (.iconst 0, 1) := by decide +kernel
theorem dX4_joined_69 : decode cX4_joined 69 = .ok (.goto 6, 3) := by decide +kernel
theorem dX4_joined_72 : decode cX4_joined 72 = .ok (.iload_n 1, 1) := by decide +kernel
theorem dX4_joined_73 : decode cX4_joined 73 = .ok (.iload_n 2, 1) := by decide +kernel
theorem dX4_joined_74 : decode cX4_joined 74 = .ok (.irem, 1) := by decide +kernel
theorem dX4_joined_75 : decode cX4_joined 75 = .ok (.ireturn, 1) := by decide +kernel
theorem dX4_joined_76 : decode cX4_joined 76 = .ok (.iload_n 1, 1) := by decide +kernel
theorem dX4_joined_77 : decode cX4_joined 77 = .ok (.iload_n 2, 1) := by decide +kernel
theorem dX4_joined_78 : decode cX4_joined 78 = .ok (.if_icmp .ge 7, 3) := by decide +kernel
theorem dX4_joined_81 : decode cX4_joined 81 = .ok (.iload_n 1, 1) := by decide +kernel
theorem dX4_joined_82 : decode cX4_joined 82 = .ok (.goto 4, 3) := by decide +kernel
theorem dX4_joined_85 : decode cX4_joined 85 = .ok (.iload_n 2, 1) := by decide +kernel
theorem dX4_joined_86 : decode cX4_joined 86 = .ok (.ireturn, 1) := by decide +kernel
theorem dX4_joined_87 : decode cX4_joined 87 = .ok (.iload_n 1, 1) := by decide +kernel
theorem dX4_joined_88 : decode cX4_joined 88 = .ok (.iload_n 2, 1) := by decide +kernel
theorem dX4_joined_89 : decode cX4_joined 89 = .ok (.if_icmp .le 7, 3) := by decide +kernel
theorem dX4_joined_92 : decode cX4_joined 92 = .ok (.iload_n 1, 1) := by decide +kernel
theorem dX4_joined_93 : decode cX4_joined 93 = .ok (.goto 4, 3) := by decide +kernel
theorem dX4_joined_96 : decode cX4_joined 96 = .ok (.iload_n 2, 1) := by decide +kernel
theorem dX4_joined_97 : decode cX4_joined 97 = .ok (.ireturn, 1) := by decide +kernel
theorem dX5_init_0 : decode cX5_init 0 = .ok (.aload_n 0, 1) := by decide +kernel
theorem dX5_init_1 : decode cX5_init 1 = .ok (.invokespecial 5, 3) := by decide +kernel
theorem dX5_init_4 : decode cX5_init 4 = .ok (.aload_n 0, 1) := by decide +kernel
theorem dX5_init_5 : decode cX5_init 5 = .ok (.sipush 752, 3) := by decide +kernel
theorem dX5_init_8 : decode cX5_init 8 = .ok (.newarray .int, 2) := by decide +kernel
theorem dX5_init_10 : decode cX5_init 10 = .ok (.putfield 11, 3) := by decide +kernel
theorem dX5_init_13 : decode cX5_init 13 = .ok (.aload_n 0, 1) := by decide +kernel
theorem dX5_init_14 : decode cX5_init 14 = .ok (.sipush 2397, 3) := by decide +kernel
theorem dX5_init_17 : decode cX5_init 17 = .ok (.newarray .int, 2) := by decide +kernel
theorem dX5_init_19 : decode cX5_init 19 = .ok (.putfield 15, 3) := by decide +kernel
theorem dX5_init_22 : decode cX5_init 22 = .ok (.aload_n 0, 1) := by decide +kernel
theorem dX5_init_23 : decode cX5_init 23 = .ok (.iconst 3, 1) := by decide +kernel
theorem dX5_init_24 : decode cX5_init 24 = .ok (.newarray .int, 2) := by decide +kernel
theorem dX5_init_26 : decode cX5_init 26 = .ok (.putfield 18, 3) := by decide +kernel
theorem dX5_init_29 : decode cX5_init 29 = .ok (.return_, 1) := by decide +kernel
theorem dX5_forget_0 : decode cX5_forget 0 = .ok (.aload_n 0, 1) := by decide +kernel
theorem dX5_forget_1 : decode cX5_forget 1 = .ok (.iconst 0, 1) := by decide +kernel
theorem dX5_forget_2 : decode cX5_forget 2 = .ok (.putfield 21, 3) := by decide +kernel
theorem dX5_forget_5 : decode cX5_forget 5 = .ok (.aload_n 0, 1) := by decide +kernel
theorem dX5_forget_6 : decode cX5_forget 6 = .ok (.iconst 0, 1) := by decide +kernel
theorem dX5_forget_7 : decode cX5_forget 7 = .ok (.putfield 25, 3) := by decide +kernel
theorem dX5_forget_10 : decode cX5_forget 10 = .ok (.return_, 1) := by decide +kernel
theorem dX5_isFull_0 : decode cX5_isFull 0 = .ok (.aload_n 0, 1) := by decide +kernel
theorem dX5_isFull_1 : decode cX5_isFull 1 = .ok (.getfield 21, 3) := by decide +kernel
theorem dX5_isFull_4 : decode cX5_isFull 4 = .ok (.bipush 16, 2) := by decide +kernel
theorem dX5_isFull_6 : decode cX5_isFull 6 = .ok (.if_icmp .lt 7, 3) := by decide +kernel
theorem dX5_isFull_9 : decode cX5_isFull 9 = .ok (.iconst 1, 1) := by decide +kernel
theorem dX5_isFull_10 : decode cX5_isFull 10 = .ok (.goto 4, 3) := by decide +kernel
theorem dX5_isFull_13 : decode cX5_isFull 13 = .ok (.iconst 0, 1) := by decide +kernel
theorem dX5_isFull_14 : decode cX5_isFull 14 = .ok (.ireturn, 1) := by decide +kernel
theorem dX5_keepWork_0 : decode cX5_keepWork 0 = .ok (.aload_n 0, 1) := by decide +kernel
theorem dX5_keepWork_1 : decode cX5_keepWork 1 = .ok (.invokevirtual 28, 3) := by decide +kernel
theorem dX5_keepWork_4 : decode cX5_keepWork 4 = .ok (.ifCond .ne 34, 3) := by decide +kernel
theorem dX5_keepWork_7 : decode cX5_keepWork 7 = .ok (.aload_n 1, 1) := by decide +kernel
theorem dX5_keepWork_8 : decode cX5_keepWork 8 = .ok (.getfield 32, 3) := by decide +kernel
theorem dX5_keepWork_11 : decode cX5_keepWork 11 = .ok (.iconst 0, 1) := by decide +kernel
theorem dX5_keepWork_12 : decode cX5_keepWork 12 = .ok (.aload_n 0, 1) := by decide +kernel
theorem dX5_keepWork_13 : decode cX5_keepWork 13 = .ok (.getfield 11, 3) := by decide +kernel
theorem dX5_keepWork_16 : decode cX5_keepWork 16 = .ok (.aload_n 0, 1) := by decide +kernel
theorem dX5_keepWork_17 : decode cX5_keepWork 17 = .ok (.getfield 21, 3) := by decide +kernel
theorem dX5_keepWork_20 : decode cX5_keepWork 20 = .ok (.bipush 47, 2) := by decide +kernel
theorem dX5_keepWork_22 : decode cX5_keepWork 22 = .ok (.imul, 1) := by decide +kernel
theorem dX5_keepWork_23 : decode cX5_keepWork 23 = .ok (.bipush 47, 2) := by decide +kernel
theorem dX5_keepWork_25 : decode cX5_keepWork 25 = .ok (.invokestatic 35, 3) := by decide +kernel
theorem dX5_keepWork_28 : decode cX5_keepWork 28 = .ok (.aload_n 0, 1) := by decide +kernel
theorem dX5_keepWork_29 : decode cX5_keepWork 29 = .ok (.dup, 1) := by decide +kernel
theorem dX5_keepWork_30 : decode cX5_keepWork 30 = .ok (.getfield 21, 3) := by decide +kernel
theorem dX5_keepWork_33 : decode cX5_keepWork 33 = .ok (.iconst 1, 1) := by decide +kernel
theorem dX5_keepWork_34 : decode cX5_keepWork 34 = .ok (.iadd, 1) := by decide +kernel
theorem dX5_keepWork_35 : decode cX5_keepWork 35 = .ok (.putfield 21, 3) := by decide +kernel
theorem dX5_keepWork_38 : decode cX5_keepWork 38 = .ok (.return_, 1) := by decide +kernel
theorem dX5_takeBackWork_0 : decode cX5_takeBackWork 0 = .ok (.aload_n 0, 1) := by decide +kernel
theorem dX5_takeBackWork_1 : decode cX5_takeBackWork 1 = .ok (.getfield 21, 3) := by decide +kernel
theorem dX5_takeBackWork_4 : decode cX5_takeBackWork 4 = .ok (.ifCond .gt 5, 3) := by decide +kernel
theorem dX5_takeBackWork_7 : decode cX5_takeBackWork 7 = .ok (.iconst 0, 1) := by decide +kernel
theorem dX5_takeBackWork_8 : decode cX5_takeBackWork 8 = .ok (.ireturn, 1) := by decide +kernel
theorem dX5_takeBackWork_9 : decode cX5_takeBackWork 9 = .ok (.aload_n 0, 1) := by decide +kernel
theorem dX5_takeBackWork_10 : decode cX5_takeBackWork 10 = .ok (.dup, 1) := by decide +kernel
theorem dX5_takeBackWork_11 : decode cX5_takeBackWork 11 = .ok (.getfield 21, 3) := by decide +kernel
theorem dX5_takeBackWork_14 : decode cX5_takeBackWork 14 = .ok (.iconst 1, 1) := by decide +kernel
theorem dX5_takeBackWork_15 : decode cX5_takeBackWork 15 = .ok (.isub, 1) := by decide +kernel
theorem dX5_takeBackWork_16 : decode cX5_takeBackWork 16 = .ok (.putfield 21, 3) := by decide +kernel
theorem dX5_takeBackWork_19 : decode cX5_takeBackWork 19 = .ok (.aload_n 0, 1) := by decide +kernel
theorem dX5_takeBackWork_20 : decode cX5_takeBackWork 20 = .ok (.getfield 11, 3) := by decide +kernel
theorem dX5_takeBackWork_23 : decode cX5_takeBackWork 23 = .ok (.aload_n 0, 1) := by decide +kernel
theorem dX5_takeBackWork_24 : decode cX5_takeBackWork 24 = .ok (.getfield 21, 3) := by decide +kernel
theorem dX5_takeBackWork_27 : decode cX5_takeBackWork 27 = .ok (.bipush 47, 2) := by decide +kernel
theorem dX5_takeBackWork_29 : decode cX5_takeBackWork 29 = .ok (.imul, 1) := by decide +kernel
theorem dX5_takeBackWork_30 : decode cX5_takeBackWork 30 = .ok (.aload_n 1, 1) := by decide +kernel
theorem dX5_takeBackWork_31 : decode cX5_takeBackWork 31 = .ok (.getfield 32, 3) := by decide +kernel
theorem dX5_takeBackWork_34 : decode cX5_takeBackWork 34 = .ok (.iconst 0, 1) := by decide +kernel
theorem dX5_takeBackWork_35 : decode cX5_takeBackWork 35 = .ok (.bipush 47, 2) := by decide +kernel
theorem dX5_takeBackWork_37 : decode cX5_takeBackWork 37 = .ok (.invokestatic 35, 3) := by decide +kernel
theorem dX5_takeBackWork_40 : decode cX5_takeBackWork 40 = .ok (.iconst 1, 1) := by decide +kernel
theorem dX5_takeBackWork_41 : decode cX5_takeBackWork 41 = .ok (.ireturn, 1) := by decide +kernel
theorem dX5_keepImage_0 : decode cX5_keepImage 0 = .ok (.aload_n 0, 1) := by decide +kernel
theorem dX5_keepImage_1 : decode cX5_keepImage 1 = .ok (.getfield 25, 3) := by decide +kernel
theorem dX5_keepImage_4 : decode cX5_keepImage 4 = .ok (.iconst 3, 1) := by decide +kernel
theorem dX5_keepImage_5 : decode cX5_keepImage 5 = .ok (.if_icmp .lt 5, 3) := by decide +kernel
theorem dX5_keepImage_8 : decode cX5_keepImage 8 = .ok (.iconst 0, 1) := by decide +kernel
theorem dX5_keepImage_9 : decode cX5_keepImage 9 = .ok (.ireturn, 1) := by decide +kernel
theorem dX5_keepImage_10 : decode cX5_keepImage 10 = .ok (.aload_n 0, 1) := by decide +kernel
theorem dX5_keepImage_11 : decode cX5_keepImage 11 = .ok (.getfield 11, 3) := by decide +kernel
theorem dX5_keepImage_14 : decode cX5_keepImage 14 = .ok (.iconst 0, 1) := by decide +kernel
theorem dX5_keepImage_15 : decode cX5_keepImage 15 = .ok (.aload_n 0, 1) := by decide +kernel
theorem dX5_keepImage_16 : decode cX5_keepImage 16 = .ok (.getfield 15, 3) := by decide +kernel
theorem dX5_keepImage_19 : decode cX5_keepImage 19 = .ok (.aload_n 0, 1) := by decide +kernel
theorem dX5_keepImage_20 : decode cX5_keepImage 20 = .ok (.getfield 25, 3) := by decide +kernel
theorem dX5_keepImage_23 : decode cX5_keepImage 23 = .ok (.sipush 799, 3) := by decide +kernel
theorem dX5_keepImage_26 : decode cX5_keepImage 26 = .ok (.imul, 1) := by decide +kernel
theorem dX5_keepImage_27 : decode cX5_keepImage 27 = .ok (.aload_n 0, 1) := by decide +kernel
theorem dX5_keepImage_28 : decode cX5_keepImage 28 = .ok (.getfield 21, 3) := by decide +kernel
theorem dX5_keepImage_31 : decode cX5_keepImage 31 = .ok (.bipush 47, 2) := by decide +kernel
theorem dX5_keepImage_33 : decode cX5_keepImage 33 = .ok (.imul, 1) := by decide +kernel
theorem dX5_keepImage_34 : decode cX5_keepImage 34 = .ok (.invokestatic 35, 3) := by decide +kernel
theorem dX5_keepImage_37 : decode cX5_keepImage 37 = .ok (.aload_n 1, 1) := by decide +kernel
theorem dX5_keepImage_38 : decode cX5_keepImage 38 = .ok (.getfield 32, 3) := by decide +kernel
theorem dX5_keepImage_41 : decode cX5_keepImage 41 = .ok (.iconst 0, 1) := by decide +kernel
theorem dX5_keepImage_42 : decode cX5_keepImage 42 = .ok (.aload_n 0, 1) := by decide +kernel
theorem dX5_keepImage_43 : decode cX5_keepImage 43 = .ok (.getfield 15, 3) := by decide +kernel
theorem dX5_keepImage_46 : decode cX5_keepImage 46 = .ok (.aload_n 0, 1) := by decide +kernel
theorem dX5_keepImage_47 : decode cX5_keepImage 47 = .ok (.getfield 25, 3) := by decide +kernel
theorem dX5_keepImage_50 : decode cX5_keepImage 50 = .ok (.sipush 799, 3) := by decide +kernel
theorem dX5_keepImage_53 : decode cX5_keepImage 53 = .ok (.imul, 1) := by decide +kernel
theorem dX5_keepImage_54 : decode cX5_keepImage 54 = .ok (.sipush 752, 3) := by decide +kernel
theorem dX5_keepImage_57 : decode cX5_keepImage 57 = .ok (.iadd, 1) := by decide +kernel
theorem dX5_keepImage_58 : decode cX5_keepImage 58 = .ok (.bipush 47, 2) := by decide +kernel
theorem dX5_keepImage_60 : decode cX5_keepImage 60 = .ok (.invokestatic 35, 3) := by decide +kernel
theorem dX5_keepImage_63 : decode cX5_keepImage 63 = .ok (.aload_n 0, 1) := by decide +kernel
theorem dX5_keepImage_64 : decode cX5_keepImage 64 = .ok (.getfield 18, 3) := by decide +kernel
theorem dX5_keepImage_67 : decode cX5_keepImage 67 = .ok (.aload_n 0, 1) := by decide +kernel
theorem dX5_keepImage_68 : decode cX5_keepImage 68 = .ok (.getfield 25, 3) := by decide +kernel
theorem dX5_keepImage_71 : decode cX5_keepImage 71 = .ok (.aload_n 0, 1) := by decide +kernel
theorem dX5_keepImage_72 : decode cX5_keepImage 72 = .ok (.getfield 21, 3) := by decide +kernel
theorem dX5_keepImage_75 : decode cX5_keepImage 75 = .ok (.iastore, 1) := by decide +kernel
theorem dX5_keepImage_76 : decode cX5_keepImage 76 = .ok (.aload_n 0, 1) := by decide +kernel
theorem dX5_keepImage_77 : decode cX5_keepImage 77 = .ok (.dup, 1) := by decide +kernel
theorem dX5_keepImage_78 : decode cX5_keepImage 78 = .ok (.getfield 25, 3) := by decide +kernel
theorem dX5_keepImage_81 : decode cX5_keepImage 81 = .ok (.iconst 1, 1) := by decide +kernel
theorem dX5_keepImage_82 : decode cX5_keepImage 82 = .ok (.iadd, 1) := by decide +kernel
theorem dX5_keepImage_83 : decode cX5_keepImage 83 = .ok (.putfield 25, 3) := by decide +kernel
theorem dX5_keepImage_86 : decode cX5_keepImage 86 = .ok (.iconst 1, 1) := by decide +kernel
theorem dX5_keepImage_87 : decode cX5_keepImage 87 = .ok (.ireturn, 1) := by decide +kernel
theorem dX5_takeBackImage_0 : decode cX5_takeBackImage 0 = .ok (.aload_n 0, 1) := by decide +kernel
theorem dX5_takeBackImage_1 : decode cX5_takeBackImage 1 = .ok (.getfield 25, 3) := by decide +kernel
theorem dX5_takeBackImage_4 : decode cX5_takeBackImage 4 = .ok (.ifCond .gt 5, 3) := by decide +kernel
theorem dX5_takeBackImage_7 : decode cX5_takeBackImage 7 = .ok (.iconst 0, 1) := by decide +kernel
theorem dX5_takeBackImage_8 : decode cX5_takeBackImage 8 = .ok (.ireturn, 1) := by decide +kernel
theorem dX5_takeBackImage_9 : decode cX5_takeBackImage 9 = .ok (.aload_n 0, 1) := by decide +kernel
theorem dX5_takeBackImage_10 : decode cX5_takeBackImage 10 = .ok (.dup, 1) := by decide +kernel
theorem dX5_takeBackImage_11 : decode cX5_takeBackImage 11 = .ok (.getfield 25, 3) := by decide +kernel
theorem dX5_takeBackImage_14 : decode cX5_takeBackImage 14 = .ok (.iconst 1, 1) := by decide +kernel
theorem dX5_takeBackImage_15 : decode cX5_takeBackImage 15 = .ok (.isub, 1) := by decide +kernel
theorem dX5_takeBackImage_16 : decode cX5_takeBackImage 16 = .ok (.putfield 25, 3) := by decide +kernel
theorem dX5_takeBackImage_19 : decode cX5_takeBackImage 19 = .ok (.aload_n 0, 1) := by decide +kernel
theorem dX5_takeBackImage_20 : decode cX5_takeBackImage 20 = .ok (.aload_n 0, 1) := by decide +kernel
theorem dX5_takeBackImage_21 : decode cX5_takeBackImage 21 = .ok (.getfield 18, 3) := by decide +kernel
theorem dX5_takeBackImage_24 : decode cX5_takeBackImage 24 = .ok (.aload_n 0, 1) := by decide +kernel
theorem dX5_takeBackImage_25 : decode cX5_takeBackImage 25 = .ok (.getfield 25, 3) := by decide +kernel
theorem dX5_takeBackImage_28 : decode cX5_takeBackImage 28 = .ok (.iaload, 1) := by decide +kernel
theorem dX5_takeBackImage_29 : decode cX5_takeBackImage 29 = .ok (.putfield 21, 3) := by decide +kernel
theorem dX5_takeBackImage_32 : decode cX5_takeBackImage 32 = .ok (.aload_n 0, 1) := by decide +kernel
theorem dX5_takeBackImage_33 : decode cX5_takeBackImage 33 = .ok (.getfield 15, 3) := by decide +kernel
theorem dX5_takeBackImage_36 : decode cX5_takeBackImage 36 = .ok (.aload_n 0, 1) := by decide +kernel
theorem dX5_takeBackImage_37 : decode cX5_takeBackImage 37 = .ok (.getfield 25, 3) := by decide +kernel
theorem dX5_takeBackImage_40 : decode cX5_takeBackImage 40 = .ok (.sipush 799, 3) := by decide +kernel
theorem dX5_takeBackImage_43 : decode cX5_takeBackImage 43 = .ok (.imul, 1) := by decide +kernel
theorem dX5_takeBackImage_44 : decode cX5_takeBackImage 44 = .ok (.aload_n 0, 1) := by decide +kernel
theorem dX5_takeBackImage_45 : decode cX5_takeBackImage 45 = .ok (.getfield 11, 3) := by decide +kernel
theorem dX5_takeBackImage_48 : decode cX5_takeBackImage 48 = .ok (.iconst 0, 1) := by decide +kernel
theorem dX5_takeBackImage_49 : decode cX5_takeBackImage 49 = .ok (.aload_n 0, 1) := by decide +kernel
theorem dX5_takeBackImage_50 : decode cX5_takeBackImage 50 = .ok (.getfield 21, 3) := by decide +kernel
theorem dX5_takeBackImage_53 : decode cX5_takeBackImage 53 = .ok (.bipush 47, 2) := by decide +kernel
theorem dX5_takeBackImage_55 : decode cX5_takeBackImage 55 = .ok (.imul, 1) := by decide +kernel
theorem dX5_takeBackImage_56 : decode cX5_takeBackImage 56 = .ok (.invokestatic 35, 3) := by decide +kernel
theorem dX5_takeBackImage_59 : decode cX5_takeBackImage 59 = .ok (.aload_n 0, 1) := by decide +kernel
theorem dX5_takeBackImage_60 : decode cX5_takeBackImage 60 = .ok (.getfield 15, 3) := by decide +kernel
theorem dX5_takeBackImage_63 : decode cX5_takeBackImage 63 = .ok (.aload_n 0, 1) := by decide +kernel
theorem dX5_takeBackImage_64 : decode cX5_takeBackImage 64 = .ok (.getfield 25, 3) := by decide +kernel
theorem dX5_takeBackImage_67 : decode cX5_takeBackImage 67 = .ok (.sipush 799, 3) := by decide +kernel
theorem dX5_takeBackImage_70 : decode cX5_takeBackImage 70 = .ok (.imul, 1) := by decide +kernel
theorem dX5_takeBackImage_71 : decode cX5_takeBackImage 71 = .ok (.sipush 752, 3) := by decide +kernel
theorem dX5_takeBackImage_74 : decode cX5_takeBackImage 74 = .ok (.iadd, 1) := by decide +kernel
theorem dX5_takeBackImage_75 : decode cX5_takeBackImage 75 = .ok (.aload_n 1, 1) := by decide +kernel
theorem dX5_takeBackImage_76 : decode cX5_takeBackImage 76 = .ok (.getfield 32, 3) := by decide +kernel
theorem dX5_takeBackImage_79 : decode cX5_takeBackImage 79 = .ok (.iconst 0, 1) := by decide +kernel
theorem dX5_takeBackImage_80 : decode cX5_takeBackImage 80 = .ok (.bipush 47, 2) := by decide +kernel
theorem dX5_takeBackImage_82 : decode cX5_takeBackImage 82 = .ok (.invokestatic 35, 3) := by decide +kernel
theorem dX5_takeBackImage_85 : decode cX5_takeBackImage 85 = .ok (.iconst 1, 1) := by decide +kernel
theorem dX5_takeBackImage_86 : decode cX5_takeBackImage 86 = .ok (.ireturn, 1) := by decide +kernel
theorem dX6_init_0 : decode cX6_init 0 = .ok (.aload_n 0, 1) := by decide +kernel
theorem dX6_init_1 : decode cX6_init 1 = .ok (.invokespecial 3, 3) := by decide +kernel
theorem dX6_init_4 : decode cX6_init 4 = .ok (.aload_n 0, 1) := by decide +kernel
theorem dX6_init_5 : decode cX6_init 5 = .ok (.aload_n 1, 1) := by decide +kernel
theorem dX6_init_6 : decode cX6_init 6 = .ok (.putfield 9, 3) := by decide +kernel
theorem dX6_init_9 : decode cX6_init 9 = .ok (.return_, 1) := by decide +kernel
theorem dX6_play_0 : decode cX6_play 0 = .ok (.aload_n 0, 1) := by decide +kernel
theorem dX6_play_1 : decode cX6_play 1 = .ok (.iload_n 2, 1) := by decide +kernel
theorem dX6_play_2 : decode cX6_play 2 = .ok (.putfield 15, 3) := by decide +kernel
theorem dX6_play_5 : decode cX6_play 5 = .ok (.iconst 0, 1) := by decide +kernel
theorem dX6_play_6 : decode cX6_play 6 = .ok (.istore 5, 2) := by decide +kernel
theorem dX6_play_8 : decode cX6_play 8 = .ok (.iload 5, 2) := by decide +kernel
theorem dX6_play_10 : decode cX6_play 10 = .ok (.iload_n 3, 1) := by decide +kernel
theorem dX6_play_11 : decode cX6_play 11 = .ok (.if_icmp .ge 115, 3) := by decide +kernel
theorem dX6_play_14 : decode cX6_play 14 = .ok (.aload_n 0, 1) := by decide +kernel
theorem dX6_play_15 : decode cX6_play 15 = .ok (.getfield 9, 3) := by decide +kernel
theorem dX6_play_18 : decode cX6_play 18 = .ok (.getfield 19, 3) := by decide +kernel
theorem dX6_play_21 : decode cX6_play 21 = .ok (.ifCond .le 38, 3) := by decide +kernel
theorem dX6_play_24 : decode cX6_play 24 = .ok (.aload_n 0, 1) := by decide +kernel
theorem dX6_play_25 : decode cX6_play 25 = .ok (.aload_n 0, 1) := by decide +kernel
theorem dX6_play_26 : decode cX6_play 26 = .ok (.getfield 9, 3) := by decide +kernel
theorem dX6_play_29 : decode cX6_play 29 = .ok (.getfield 19, 3) := by decide +kernel
theorem dX6_play_32 : decode cX6_play 32 = .ok (.invokevirtual 24, 3) := by decide +kernel
theorem dX6_play_35 : decode cX6_play 35 = .ok (.istore 6, 2) := by decide +kernel
theorem dX6_play_37 : decode cX6_play 37 = .ok (.aload_n 0, 1) := by decide +kernel
theorem dX6_play_38 : decode cX6_play 38 = .ok (.aload_n 0, 1) := by decide +kernel
theorem dX6_play_39 : decode cX6_play 39 = .ok (.getfield 9, 3) := by decide +kernel
theorem dX6_play_42 : decode cX6_play 42 = .ok (.getfield 28, 3) := by decide +kernel
theorem dX6_play_45 : decode cX6_play 45 = .ok (.invokevirtual 24, 3) := by decide +kernel
theorem dX6_play_48 : decode cX6_play 48 = .ok (.istore 7, 2) := by decide +kernel
theorem dX6_play_50 : decode cX6_play 50 = .ok (.aload_n 1, 1) := by decide +kernel
theorem dX6_play_51 : decode cX6_play 51 = .ok (.iload 6, 2) := by decide +kernel
theorem dX6_play_53 : decode cX6_play 53 = .ok (.iload 7, 2) := by decide +kernel
theorem dX6_play_55 : decode cX6_play 55 = .ok (.invokevirtual 31, 3) := by decide +kernel
theorem dX6_play_58 : decode cX6_play 58 = .ok (.pop, 1) := by decide +kernel
theorem dX6_play_59 : decode cX6_play 59 = .ok (.aload_n 0, 1) := by decide +kernel
theorem dX6_play_60 : decode cX6_play 60 = .ok (.getfield 9, 3) := by decide +kernel
theorem dX6_play_63 : decode cX6_play 63 = .ok (.getfield 37, 3) := by decide +kernel
theorem dX6_play_66 : decode cX6_play 66 = .ok (.ifCond .le 49, 3) := by decide +kernel
theorem dX6_play_69 : decode cX6_play 69 = .ok (.aload_n 0, 1) := by decide +kernel
theorem dX6_play_70 : decode cX6_play 70 = .ok (.bipush 16, 2) := by decide +kernel
theorem dX6_play_72 : decode cX6_play 72 = .ok (.invokevirtual 24, 3) := by decide +kernel
theorem dX6_play_75 : decode cX6_play 75 = .ok (.iload 4, 2) := by decide +kernel
theorem dX6_play_77 : decode cX6_play 77 = .ok (.if_icmp .ge 38, 3) := by decide +kernel
theorem dX6_play_80 : decode cX6_play 80 = .ok (.aload_n 0, 1) := by decide +kernel
theorem dX6_play_81 : decode cX6_play 81 = .ok (.aload_n 0, 1) := by decide +kernel
theorem dX6_play_82 : decode cX6_play 82 = .ok (.getfield 9, 3) := by decide +kernel
theorem dX6_play_85 : decode cX6_play 85 = .ok (.getfield 37, 3) := by decide +kernel
theorem dX6_play_88 : decode cX6_play 88 = .ok (.invokevirtual 24, 3) := by decide +kernel
theorem dX6_play_91 : decode cX6_play 91 = .ok (.istore 6, 2) := by decide +kernel
theorem dX6_play_93 : decode cX6_play 93 = .ok (.aload_n 0, 1) := by decide +kernel
theorem dX6_play_94 : decode cX6_play 94 = .ok (.aload_n 0, 1) := by decide +kernel
theorem dX6_play_95 : decode cX6_play 95 = .ok (.getfield 9, 3) := by decide +kernel
theorem dX6_play_98 : decode cX6_play 98 = .ok (.getfield 28, 3) := by decide +kernel
theorem dX6_play_101 : decode cX6_play 101 = .ok (.invokevirtual 24, 3) := by decide +kernel
theorem dX6_play_104 : decode cX6_play 104 = .ok (.istore 7, 2) := by decide +kernel
theorem dX6_play_106 : decode cX6_play 106 = .ok (.aload_n 1, 1) := by decide +kernel
theorem dX6_play_107 : decode cX6_play 107 = .ok (.iload 6, 2) := by decide +kernel
theorem dX6_play_109 : decode cX6_play 109 = .ok (.iload 7, 2) := by decide +kernel
theorem dX6_play_111 : decode cX6_play 111 = .ok (.invokevirtual 40, 3) := by decide +kernel
theorem dX6_play_114 : decode cX6_play 114 = .ok (.pop, 1) := by decide +kernel
theorem dX6_play_115 : decode cX6_play 115 = .ok (.aload_n 1, 1) := by decide +kernel
theorem dX6_play_116 : decode cX6_play 116 = .ok (.invokevirtual 43, 3) := by decide +kernel
theorem dX6_play_119 : decode cX6_play 119 = .ok (.pop, 1) := by decide +kernel
theorem dX6_play_120 : decode cX6_play 120 = .ok (.iinc 5 1, 3) := by decide +kernel
theorem dX6_play_123 : decode cX6_play 123 = .ok (.goto (-115), 3) := by decide +kernel
theorem dX6_play_126 : decode cX6_play 126 = .ok (.return_, 1) := by decide +kernel
theorem dX6_draw_0 : decode cX6_draw 0 = .ok (.aload_n 0, 1) := by decide +kernel
theorem dX6_draw_1 : decode cX6_draw 1 = .ok (.aload_n 0, 1) := by decide +kernel
theorem dX6_draw_2 : decode cX6_draw 2 = .ok (.getfield 15, 3) := by decide +kernel
theorem dX6_draw_5 : decode cX6_draw 5 = .ok (.ldc 47, 2) := by decide +kernel
theorem dX6_draw_7 : decode cX6_draw 7 = .ok (.imul, 1) := by decide +kernel
theorem dX6_draw_8 : decode cX6_draw 8 = .ok (.sipush 12345, 3) := by decide +kernel
theorem dX6_draw_11 : decode cX6_draw 11 = .ok (.iadd, 1) := by decide +kernel
theorem dX6_draw_12 : decode cX6_draw 12 = .ok (.putfield 15, 3) := by decide +kernel
theorem dX6_draw_15 : decode cX6_draw 15 = .ok (.iload_n 1, 1) := by decide +kernel
theorem dX6_draw_16 : decode cX6_draw 16 = .ok (.ifCond .gt 7, 3) := by decide +kernel
theorem dX6_draw_19 : decode cX6_draw 19 = .ok (.iconst 0, 1) := by decide +kernel
theorem dX6_draw_20 : decode cX6_draw 20 = .ok (.goto 16, 3) := by decide +kernel
theorem dX6_draw_23 : decode cX6_draw 23 = .ok (.aload_n 0, 1) := by decide +kernel
theorem dX6_draw_24 : decode cX6_draw 24 = .ok (.getfield 15, 3) := by decide +kernel
theorem dX6_draw_27 : decode cX6_draw 27 = .ok (.bipush 16, 2) := by decide +kernel
theorem dX6_draw_29 : decode cX6_draw 29 = .ok (.iushr, 1) := by decide +kernel
theorem dX6_draw_30 : decode cX6_draw 30 = .ok (.sipush 32767, 3) := by decide +kernel
theorem dX6_draw_33 : decode cX6_draw 33 = .ok (.iand, 1) := by decide +kernel
theorem dX6_draw_34 : decode cX6_draw 34 = .ok (.iload_n 1, 1) := by decide +kernel
theorem dX6_draw_35 : decode cX6_draw 35 = .ok (.irem, 1) := by decide +kernel
theorem dX6_draw_36 : decode cX6_draw 36 = .ok (.ireturn, 1) := by decide +kernel
theorem dX7_init_0 : decode cX7_init 0 = .ok (.aload_n 0, 1) := by decide +kernel
theorem dX7_init_1 : decode cX7_init 1 = .ok (.invokespecial 3, 3) := by decide +kernel
theorem dX7_init_4 : decode cX7_init 4 = .ok (.aload_n 0, 1) := by decide +kernel
theorem dX7_init_5 : decode cX7_init 5 = .ok (.sipush 256, 3) := by decide +kernel
theorem dX7_init_8 : decode cX7_init 8 = .ok (.newarray .int, 2) := by decide +kernel
theorem dX7_init_10 : decode cX7_init 10 = .ok (.putfield 11, 3) := by decide +kernel
theorem dX7_init_13 : decode cX7_init 13 = .ok (.aload_n 0, 1) := by decide +kernel
theorem dX7_init_14 : decode cX7_init 14 = .ok (.sipush 256, 3) := by decide +kernel
theorem dX7_init_17 : decode cX7_init 17 = .ok (.newarray .int, 2) := by decide +kernel
theorem dX7_init_19 : decode cX7_init 19 = .ok (.putfield 15, 3) := by decide +kernel
theorem dX7_init_22 : decode cX7_init 22 = .ok (.aload_n 0, 1) := by decide +kernel
theorem dX7_init_23 : decode cX7_init 23 = .ok (.bipush 32, 2) := by decide +kernel
theorem dX7_init_25 : decode cX7_init 25 = .ok (.putfield 18, 3) := by decide +kernel
theorem dX7_init_28 : decode cX7_init 28 = .ok (.aload_n 0, 1) := by decide +kernel
theorem dX7_init_29 : decode cX7_init 29 = .ok (.iconst (-1), 1) := by decide +kernel
theorem dX7_init_30 : decode cX7_init 30 = .ok (.putfield 22, 3) := by decide +kernel
theorem dX7_init_33 : decode cX7_init 33 = .ok (.aload_n 0, 1) := by decide +kernel
theorem dX7_init_34 : decode cX7_init 34 = .ok (.aload_n 1, 1) := by decide +kernel
theorem dX7_init_35 : decode cX7_init 35 = .ok (.putfield 25, 3) := by decide +kernel
theorem dX7_init_38 : decode cX7_init 38 = .ok (.aload_n 0, 1) := by decide +kernel
theorem dX7_init_39 : decode cX7_init 39 = .ok (.aload_n 2, 1) := by decide +kernel
theorem dX7_init_40 : decode cX7_init 40 = .ok (.putfield 29, 3) := by decide +kernel
theorem dX7_init_43 : decode cX7_init 43 = .ok (.return_, 1) := by decide +kernel
theorem dX7_fewestNights_0 : decode cX7_fewestNights 0 = .ok (.aload_n 1, 1) := by decide +kernel
theorem dX7_fewestNights_1 : decode cX7_fewestNights 1 = .ok (.iload_n 2, 1) := by decide +kernel
theorem dX7_fewestNights_2 : decode cX7_fewestNights 2 = .ok (.invokevirtual 33, 3) := by decide +kernel
theorem dX7_fewestNights_5 : decode cX7_fewestNights 5 = .ok (.ifCond .ne 5, 3) := by decide +kernel
theorem dX7_fewestNights_8 : decode cX7_fewestNights 8 = .ok (.iconst (-1), 1) := by decide +kernel
theorem dX7_fewestNights_9 : decode cX7_fewestNights 9 = .ok (.ireturn, 1) := by decide +kernel
theorem dX7_fewestNights_10 : decode cX7_fewestNights 10 = .ok (.aload_n 1, 1) := by decide +kernel
theorem dX7_fewestNights_11 : decode cX7_fewestNights 11 = .ok (.iload_n 2, 1) := by decide +kernel
theorem dX7_fewestNights_12 : decode cX7_fewestNights 12 = .ok (.invokevirtual 39, 3) := by decide +kernel
theorem dX7_fewestNights_15 : decode cX7_fewestNights 15 = .ok (.istore 4, 2) := by decide +kernel
theorem dX7_fewestNights_17 : decode cX7_fewestNights 17 = .ok (.iload 4, 2) := by decide +kernel
theorem dX7_fewestNights_19 : decode cX7_fewestNights 19 = .ok (.iload_n 3, 1) := by decide +kernel
theorem dX7_fewestNights_20 : decode cX7_fewestNights 20 = .ok (.if_icmp .ne 5, 3) := by decide +kernel
theorem dX7_fewestNights_23 : decode cX7_fewestNights 23 = .ok (.iconst 0, 1) := by decide +kernel
theorem dX7_fewestNights_24 : decode cX7_fewestNights 24 = .ok (.ireturn, 1) := by decide +kernel
theorem dX7_fewestNights_25 : decode cX7_fewestNights 25 = .ok (.aload_n 0, 1) := by decide +kernel
theorem dX7_fewestNights_26 : decode cX7_fewestNights 26 = .ok (.iload_n 2, 1) := by decide +kernel
theorem dX7_fewestNights_27 : decode cX7_fewestNights 27 = .ok (.putfield 43, 3) := by decide +kernel
theorem dX7_fewestNights_30 : decode cX7_fewestNights 30 = .ok (.aload_n 0, 1) := by decide +kernel
theorem dX7_fewestNights_31 : decode cX7_fewestNights 31 = .ok (.invokevirtual 46, 3) := by decide +kernel
theorem dX7_fewestNights_34 : decode cX7_fewestNights 34 = .ok (.aload_n 0, 1) := by decide +kernel
theorem dX7_fewestNights_35 : decode cX7_fewestNights 35 = .ok (.iload 4, 2) := by decide +kernel
theorem dX7_fewestNights_37 : decode cX7_fewestNights 37 = .ok (.aload_n 1, 1) := by decide +kernel
theorem dX7_fewestNights_38 : decode cX7_fewestNights 38 = .ok (.aload_n 0, 1) := by decide +kernel
theorem dX7_fewestNights_39 : decode cX7_fewestNights 39 = .ok (.getfield 43, 3) := by decide +kernel
theorem dX7_fewestNights_42 : decode cX7_fewestNights 42 = .ok (.invokevirtual 49, 3) := by decide +kernel
theorem dX7_fewestNights_45 : decode cX7_fewestNights 45 = .ok (.invokevirtual 52, 3) := by decide +kernel
theorem dX7_fewestNights_48 : decode cX7_fewestNights 48 = .ok (.aload_n 1, 1) := by decide +kernel
theorem dX7_fewestNights_49 : decode cX7_fewestNights 49 = .ok (.aload_n 0, 1) := by decide +kernel
theorem dX7_fewestNights_50 : decode cX7_fewestNights 50 = .ok (.getfield 43, 3) := by decide +kernel
theorem dX7_fewestNights_53 : decode cX7_fewestNights 53 = .ok (.invokevirtual 56, 3) := by decide +kernel
theorem dX7_fewestNights_56 : decode cX7_fewestNights 56 = .ok (.iconst 1, 1) := by decide +kernel
theorem dX7_fewestNights_57 : decode cX7_fewestNights 57 = .ok (.istore 5, 2) := by decide +kernel
theorem dX7_fewestNights_59 : decode cX7_fewestNights 59 = .ok (.iload 5, 2) := by decide +kernel
theorem dX7_fewestNights_61 : decode cX7_fewestNights 61 = .ok (.bipush 40, 2) := by decide +kernel
theorem dX7_fewestNights_63 : decode cX7_fewestNights 63 = .ok (.if_icmp .gt 65, 3) := by decide +kernel
theorem dX7_fewestNights_66 : decode cX7_fewestNights 66 = .ok (.aload_n 0, 1) := by decide +kernel
theorem dX7_fewestNights_67 : decode cX7_fewestNights 67 = .ok (.getfield 18, 3) := by decide +kernel
theorem dX7_fewestNights_70 : decode cX7_fewestNights 70 = .ok (.aload_n 0, 1) := by decide +kernel
theorem dX7_fewestNights_71 : decode cX7_fewestNights 71 = .ok (.getfield 22, 3) := by decide +kernel
theorem dX7_fewestNights_74 : decode cX7_fewestNights 74 = .ok (.if_icmp .gt 54, 3) := by decide +kernel
theorem dX7_fewestNights_77 : decode cX7_fewestNights 77 = .ok (.aload_n 0, 1) := by decide +kernel
theorem dX7_fewestNights_78 : decode cX7_fewestNights 78 = .ok (.aload_n 1, 1) := by decide +kernel
theorem dX7_fewestNights_79 : decode cX7_fewestNights 79 = .ok (.invokevirtual 60, 3) := by decide +kernel
theorem dX7_fewestNights_82 : decode cX7_fewestNights 82 = .ok (.aload_n 0, 1) := by decide +kernel
theorem dX7_fewestNights_83 : decode cX7_fewestNights 83 = .ok (.aload_n 1, 1) := by decide +kernel
theorem dX7_fewestNights_84 : decode cX7_fewestNights 84 = .ok (.invokevirtual 64, 3) := by decide +kernel
theorem dX7_fewestNights_87 : decode cX7_fewestNights 87 = .ok (.putfield 68, 3) := by decide +kernel
theorem dX7_fewestNights_90 : decode cX7_fewestNights 90 = .ok (.aload_n 0, 1) := by decide +kernel
theorem dX7_fewestNights_91 : decode cX7_fewestNights 91 = .ok (.aload_n 1, 1) := by decide +kernel
theorem dX7_fewestNights_92 : decode cX7_fewestNights 92 = .ok (.invokevirtual 70, 3) := by decide +kernel
theorem dX7_fewestNights_95 : decode cX7_fewestNights 95 = .ok (.invokestatic 73, 3) := by decide +kernel
theorem dX7_fewestNights_98 : decode cX7_fewestNights 98 = .ok (.putfield 78, 3) := by decide +kernel
theorem dX7_fewestNights_101 : decode cX7_fewestNights 101 = .ok (.aload_n 1, 1) := by decide +kernel
theorem dX7_fewestNights_102 : decode cX7_fewestNights 102 = .ok (.invokevirtual 81, 3) := by decide +kernel
theorem dX7_fewestNights_105 : decode cX7_fewestNights 105 = .ok (.pop, 1) := by decide +kernel
theorem dX7_fewestNights_106 : decode cX7_fewestNights 106 = .ok (.aload_n 0, 1) := by decide +kernel
theorem dX7_fewestNights_107 : decode cX7_fewestNights 107 = .ok (.aload_n 1, 1) := by decide +kernel
theorem dX7_fewestNights_108 : decode cX7_fewestNights 108 = .ok (.invokevirtual 84, 3) := by decide +kernel
theorem dX7_fewestNights_111 : decode cX7_fewestNights 111 = .ok (.aload_n 0, 1) := by decide +kernel
theorem dX7_fewestNights_112 : decode cX7_fewestNights 112 = .ok (.iload_n 3, 1) := by decide +kernel
theorem dX7_fewestNights_113 : decode cX7_fewestNights 113 = .ok (.invokevirtual 87, 3) := by decide +kernel
theorem dX7_fewestNights_116 : decode cX7_fewestNights 116 = .ok (.ifCond .eq 6, 3) := by decide +kernel
theorem dX7_fewestNights_119 : decode cX7_fewestNights 119 = .ok (.iload 5, 2) := by decide +kernel
theorem dX7_fewestNights_121 : decode cX7_fewestNights 121 = .ok (.ireturn, 1) := by decide +kernel
theorem dX7_fewestNights_122 : decode cX7_fewestNights 122 = .ok (.iinc 5 1, 3) := by decide +kernel
theorem dX7_fewestNights_125 : decode cX7_fewestNights 125 = .ok (.goto (-66), 3) := by decide +kernel
theorem dX7_fewestNights_128 : decode cX7_fewestNights 128 = .ok (.iconst (-1), 1) := by decide +kernel
theorem dX7_fewestNights_129 : decode cX7_fewestNights 129 = .ok (.ireturn, 1) := by decide +kernel
theorem dX7_spread_0 : decode cX7_spread 0 = .ok (.iconst 0, 1) := by decide +kernel
theorem dX7_spread_1 : decode cX7_spread 1 = .ok (.istore_n 2, 1) := by decide +kernel
theorem dX7_spread_2 : decode cX7_spread 2 = .ok (.iload_n 2, 1) := by decide +kernel
theorem dX7_spread_3 : decode cX7_spread 3 = .ok (.aload_n 0, 1) := by decide +kernel
theorem dX7_spread_4 : decode cX7_spread 4 = .ok (.getfield 25, 3) := by decide +kernel
theorem dX7_spread_7 : decode cX7_spread 7 = .ok (.getfield 90, 3) := by decide +kernel
theorem dX7_spread_10 : decode cX7_spread 10 = .ok (.if_icmp .ge 106, 3) := by decide +kernel
theorem dX7_spread_13 : decode cX7_spread 13 = .ok (.aload_n 1, 1) := by decide +kernel
theorem dX7_spread_14 : decode cX7_spread 14 = .ok (.iload_n 2, 1) := by decide +kernel
theorem dX7_spread_15 : decode cX7_spread 15 = .ok (.invokevirtual 95, 3) := by decide +kernel
theorem dX7_spread_18 : decode cX7_spread 18 = .ok (.iconst 1, 1) := by decide +kernel
theorem dX7_spread_19 : decode cX7_spread 19 = .ok (.iload_n 2, 1) := by decide +kernel
theorem dX7_spread_20 : decode cX7_spread 20 = .ok (.ishl, 1) := by decide +kernel
theorem dX7_spread_21 : decode cX7_spread 21 = .ok (.ior, 1) := by decide +kernel
theorem dX7_spread_22 : decode cX7_spread 22 = .ok (.istore_n 3, 1) := by decide +kernel
theorem dX7_spread_23 : decode cX7_spread 23 = .ok (.aload_n 0, 1) := by decide +kernel
theorem dX7_spread_24 : decode cX7_spread 24 = .ok (.getfield 18, 3) := by decide +kernel
theorem dX7_spread_27 : decode cX7_spread 27 = .ok (.istore 4, 2) := by decide +kernel
theorem dX7_spread_29 : decode cX7_spread 29 = .ok (.iload 4, 2) := by decide +kernel
theorem dX7_spread_31 : decode cX7_spread 31 = .ok (.aload_n 0, 1) := by decide +kernel
theorem dX7_spread_32 : decode cX7_spread 32 = .ok (.getfield 22, 3) := by decide +kernel
theorem dX7_spread_35 : decode cX7_spread 35 = .ok (.if_icmp .gt 75, 3) := by decide +kernel
theorem dX7_spread_38 : decode cX7_spread 38 = .ok (.iconst 0, 1) := by decide +kernel
theorem dX7_spread_39 : decode cX7_spread 39 = .ok (.istore 5, 2) := by decide +kernel
theorem dX7_spread_41 : decode cX7_spread 41 = .ok (.iconst 0, 1) := by decide +kernel
theorem dX7_spread_42 : decode cX7_spread 42 = .ok (.istore 6, 2) := by decide +kernel
theorem dX7_spread_44 : decode cX7_spread 44 = .ok (.iload 6, 2) := by decide +kernel
theorem dX7_spread_46 : decode cX7_spread 46 = .ok (.aload_n 0, 1) := by decide +kernel
theorem dX7_spread_47 : decode cX7_spread 47 = .ok (.getfield 25, 3) := by decide +kernel
theorem dX7_spread_50 : decode cX7_spread 50 = .ok (.getfield 90, 3) := by decide +kernel
theorem dX7_spread_53 : decode cX7_spread 53 = .ok (.if_icmp .ge 37, 3) := by decide +kernel
theorem dX7_spread_56 : decode cX7_spread 56 = .ok (.iload_n 3, 1) := by decide +kernel
theorem dX7_spread_57 : decode cX7_spread 57 = .ok (.iload 6, 2) := by decide +kernel
theorem dX7_spread_59 : decode cX7_spread 59 = .ok (.ishr, 1) := by decide +kernel
theorem dX7_spread_60 : decode cX7_spread 60 = .ok (.iconst 1, 1) := by decide +kernel
theorem dX7_spread_61 : decode cX7_spread 61 = .ok (.iand, 1) := by decide +kernel
theorem dX7_spread_62 : decode cX7_spread 62 = .ok (.iconst 1, 1) := by decide +kernel
theorem dX7_spread_63 : decode cX7_spread 63 = .ok (.if_icmp .ne 21, 3) := by decide +kernel
theorem dX7_spread_66 : decode cX7_spread 66 = .ok (.iload 5, 2) := by decide +kernel
theorem dX7_spread_68 : decode cX7_spread 68 = .ok (.aload_n 0, 1) := by decide +kernel
theorem dX7_spread_69 : decode cX7_spread 69 = .ok (.getfield 11, 3) := by decide +kernel
theorem dX7_spread_72 : decode cX7_spread 72 = .ok (.iload 6, 2) := by decide +kernel
theorem dX7_spread_74 : decode cX7_spread 74 = .ok (.bipush 32, 2) := by decide +kernel
theorem dX7_spread_76 : decode cX7_spread 76 = .ok (.imul, 1) := by decide +kernel
theorem dX7_spread_77 : decode cX7_spread 77 = .ok (.iload 4, 2) := by decide +kernel
theorem dX7_spread_79 : decode cX7_spread 79 = .ok (.iadd, 1) := by decide +kernel
theorem dX7_spread_80 : decode cX7_spread 80 = .ok (.iaload, 1) := by decide +kernel
theorem dX7_spread_81 : decode cX7_spread 81 = .ok (.ior, 1) := by decide +kernel
theorem dX7_spread_82 : decode cX7_spread 82 = .ok (.istore 5, 2) := by decide +kernel
theorem dX7_spread_84 : decode cX7_spread 84 = .ok (.iinc 6 1, 3) := by decide +kernel
theorem dX7_spread_87 : decode cX7_spread 87 = .ok (.goto (-43), 3) := by decide +kernel
theorem dX7_spread_90 : decode cX7_spread 90 = .ok (.aload_n 0, 1) := by decide +kernel
theorem dX7_spread_91 : decode cX7_spread 91 = .ok (.getfield 15, 3) := by decide +kernel
theorem dX7_spread_94 : decode cX7_spread 94 = .ok (.iload_n 2, 1) := by decide +kernel
theorem dX7_spread_95 : decode cX7_spread 95 = .ok (.bipush 32, 2) := by decide +kernel
theorem dX7_spread_97 : decode cX7_spread 97 = .ok (.imul, 1) := by decide +kernel
theorem dX7_spread_98 : decode cX7_spread 98 = .ok (.iload 4, 2) := by decide +kernel
theorem dX7_spread_100 : decode cX7_spread 100 = .ok (.iadd, 1) := by decide +kernel
theorem dX7_spread_101 : decode cX7_spread 101 = .ok (.iload 5, 2) := by decide +kernel
theorem dX7_spread_103 : decode cX7_spread 103 = .ok (.iastore, 1) := by decide +kernel
theorem dX7_spread_104 : decode cX7_spread 104 = .ok (.iinc 4 1, 3) := by decide +kernel
theorem dX7_spread_107 : decode cX7_spread 107 = .ok (.goto (-78), 3) := by decide +kernel
theorem dX7_spread_110 : decode cX7_spread 110 = .ok (.iinc 2 1, 3) := by decide +kernel
theorem dX7_spread_113 : decode cX7_spread 113 = .ok (.goto (-111), 3) := by decide +kernel
theorem dX7_spread_116 : decode cX7_spread 116 = .ok (.return_, 1) := by decide +kernel
theorem dX7_growAll_0 : decode cX7_growAll 0 = .ok (.aload_n 0, 1) := by decide +kernel
theorem dX7_growAll_1 : decode cX7_growAll 1 = .ok (.getfield 18, 3) := by decide +kernel
theorem dX7_growAll_4 : decode cX7_growAll 4 = .ok (.istore_n 2, 1) := by decide +kernel
theorem dX7_growAll_5 : decode cX7_growAll 5 = .ok (.aload_n 0, 1) := by decide +kernel
theorem dX7_growAll_6 : decode cX7_growAll 6 = .ok (.getfield 22, 3) := by decide +kernel
theorem dX7_growAll_9 : decode cX7_growAll 9 = .ok (.istore_n 3, 1) := by decide +kernel
theorem dX7_growAll_10 : decode cX7_growAll 10 = .ok (.aload_n 0, 1) := by decide +kernel
theorem dX7_growAll_11 : decode cX7_growAll 11 = .ok (.invokevirtual 46, 3) := by decide +kernel
theorem dX7_growAll_14 : decode cX7_growAll 14 = .ok (.iconst 0, 1) := by decide +kernel
theorem dX7_growAll_15 : decode cX7_growAll 15 = .ok (.istore 4, 2) := by decide +kernel
theorem dX7_growAll_17 : decode cX7_growAll 17 = .ok (.iload 4, 2) := by decide +kernel
theorem dX7_growAll_19 : decode cX7_growAll 19 = .ok (.aload_n 0, 1) := by decide +kernel
theorem dX7_growAll_20 : decode cX7_growAll 20 = .ok (.getfield 25, 3) := by decide +kernel
theorem dX7_growAll_23 : decode cX7_growAll 23 = .ok (.getfield 90, 3) := by decide +kernel
theorem dX7_growAll_26 : decode cX7_growAll 26 = .ok (.if_icmp .ge 56, 3) := by decide +kernel
theorem dX7_growAll_29 : decode cX7_growAll 29 = .ok (.aload_n 1, 1) := by decide +kernel
theorem dX7_growAll_30 : decode cX7_growAll 30 = .ok (.iload 4, 2) := by decide +kernel
theorem dX7_growAll_32 : decode cX7_growAll 32 = .ok (.invokevirtual 98, 3) := by decide +kernel
theorem dX7_growAll_35 : decode cX7_growAll 35 = .ok (.invokestatic 73, 3) := by decide +kernel
theorem dX7_growAll_38 : decode cX7_growAll 38 = .ok (.istore 5, 2) := by decide +kernel
theorem dX7_growAll_40 : decode cX7_growAll 40 = .ok (.aload_n 0, 1) := by decide +kernel
theorem dX7_growAll_41 : decode cX7_growAll 41 = .ok (.aload_n 1, 1) := by decide +kernel
theorem dX7_growAll_42 : decode cX7_growAll 42 = .ok (.iload 4, 2) := by decide +kernel
theorem dX7_growAll_44 : decode cX7_growAll 44 = .ok (.invokevirtual 101, 3) := by decide +kernel
theorem dX7_growAll_47 : decode cX7_growAll 47 = .ok (.istore 6, 2) := by decide +kernel
theorem dX7_growAll_49 : decode cX7_growAll 49 = .ok (.iload_n 2, 1) := by decide +kernel
theorem dX7_growAll_50 : decode cX7_growAll 50 = .ok (.istore 7, 2) := by decide +kernel
theorem dX7_growAll_52 : decode cX7_growAll 52 = .ok (.iload 7, 2) := by decide +kernel
theorem dX7_growAll_54 : decode cX7_growAll 54 = .ok (.iload_n 3, 1) := by decide +kernel
theorem dX7_growAll_55 : decode cX7_growAll 55 = .ok (.if_icmp .gt 21, 3) := by decide +kernel
theorem dX7_growAll_58 : decode cX7_growAll 58 = .ok (.aload_n 0, 1) := by decide +kernel
theorem dX7_growAll_59 : decode cX7_growAll 59 = .ok (.iload 4, 2) := by decide +kernel
theorem dX7_growAll_61 : decode cX7_growAll 61 = .ok (.iload 7, 2) := by decide +kernel
theorem dX7_growAll_63 : decode cX7_growAll 63 = .ok (.iload 5, 2) := by decide +kernel
theorem dX7_growAll_65 : decode cX7_growAll 65 = .ok (.iload 6, 2) := by decide +kernel
theorem dX7_growAll_67 : decode cX7_growAll 67 = .ok (.invokevirtual 105, 3) := by decide +kernel
theorem dX7_growAll_70 : decode cX7_growAll 70 = .ok (.iinc 7 1, 3) := by decide +kernel
theorem dX7_growAll_73 : decode cX7_growAll 73 = .ok (.goto (-21), 3) := by decide +kernel
theorem dX7_growAll_76 : decode cX7_growAll 76 = .ok (.iinc 4 1, 3) := by decide +kernel
theorem dX7_growAll_79 : decode cX7_growAll 79 = .ok (.goto (-62), 3) := by decide +kernel
theorem dX7_growAll_82 : decode cX7_growAll 82 = .ok (.return_, 1) := by decide +kernel
theorem dX7_growWord_0 : decode cX7_growWord 0 = .ok (.aload_n 0, 1) := by decide +kernel
theorem dX7_growWord_1 : decode cX7_growWord 1 = .ok (.getfield 15, 3) := by decide +kernel
theorem dX7_growWord_4 : decode cX7_growWord 4 = .ok (.iload_n 1, 1) := by decide +kernel
theorem dX7_growWord_5 : decode cX7_growWord 5 = .ok (.bipush 32, 2) := by decide +kernel
theorem dX7_growWord_7 : decode cX7_growWord 7 = .ok (.imul, 1) := by decide +kernel
theorem dX7_growWord_8 : decode cX7_growWord 8 = .ok (.iload_n 2, 1) := by decide +kernel
theorem dX7_growWord_9 : decode cX7_growWord 9 = .ok (.iadd, 1) := by decide +kernel
theorem dX7_growWord_10 : decode cX7_growWord 10 = .ok (.iaload, 1) := by decide +kernel
theorem dX7_growWord_11 : decode cX7_growWord 11 = .ok (.istore 5, 2) := by decide +kernel
theorem dX7_growWord_13 : decode cX7_growWord 13 = .ok (.iconst 0, 1) := by decide +kernel
theorem dX7_growWord_14 : decode cX7_growWord 14 = .ok (.istore 6, 2) := by decide +kernel
theorem dX7_growWord_16 : decode cX7_growWord 16 = .ok (.iload 6, 2) := by decide +kernel
theorem dX7_growWord_18 : decode cX7_growWord 18 = .ok (.bipush 32, 2) := by decide +kernel
theorem dX7_growWord_20 : decode cX7_growWord 20 = .ok (.if_icmp .ge 109, 3) := by decide +kernel
theorem dX7_growWord_23 : decode cX7_growWord 23 = .ok (.iload 5, 2) := by decide +kernel
theorem dX7_growWord_25 : decode cX7_growWord 25 = .ok (.ifCond .eq 104, 3) := by decide +kernel
theorem dX7_growWord_28 : decode cX7_growWord 28 = .ok (.iload 5, 2) := by decide +kernel
theorem dX7_growWord_30 : decode cX7_growWord 30 = .ok (.iconst 1, 1) := by decide +kernel
theorem dX7_growWord_31 : decode cX7_growWord 31 = .ok (.iand, 1) := by decide +kernel
theorem dX7_growWord_32 : decode cX7_growWord 32 = .ok (.iconst 1, 1) := by decide +kernel
theorem dX7_growWord_33 : decode cX7_growWord 33 = .ok (.if_icmp .ne 84, 3) := by decide +kernel
theorem dX7_growWord_36 : decode cX7_growWord 36 = .ok (.iload_n 2, 1) := by decide +kernel
theorem dX7_growWord_37 : decode cX7_growWord 37 = .ok (.bipush 32, 2) := by decide +kernel
theorem dX7_growWord_39 : decode cX7_growWord 39 = .ok (.imul, 1) := by decide +kernel
theorem dX7_growWord_40 : decode cX7_growWord 40 = .ok (.iload 6, 2) := by decide +kernel
theorem dX7_growWord_42 : decode cX7_growWord 42 = .ok (.iadd, 1) := by decide +kernel
theorem dX7_growWord_43 : decode cX7_growWord 43 = .ok (.istore 7, 2) := by decide +kernel
theorem dX7_growWord_45 : decode cX7_growWord 45 = .ok (.aload_n 0, 1) := by decide +kernel
theorem dX7_growWord_46 : decode cX7_growWord 46 = .ok (.getfield 29, 3) := by decide +kernel
theorem dX7_growWord_49 : decode cX7_growWord 49 = .ok (.iload 7, 2) := by decide +kernel
theorem dX7_growWord_51 : decode cX7_growWord 51 = .ok (.aload_n 0, 1) := by decide +kernel
theorem dX7_growWord_52 : decode cX7_growWord 52 = .ok (.getfield 25, 3) := by decide +kernel
theorem dX7_growWord_55 : decode cX7_growWord 55 = .ok (.getfield 109, 3) := by decide +kernel
theorem dX7_growWord_58 : decode cX7_growWord 58 = .ok (.aload_n 0, 1) := by decide +kernel
theorem dX7_growWord_59 : decode cX7_growWord 59 = .ok (.getfield 43, 3) := by decide +kernel
theorem dX7_growWord_62 : decode cX7_growWord 62 = .ok (.iaload, 1) := by decide +kernel
theorem dX7_growWord_63 : decode cX7_growWord 63 = .ok (.aload_n 0, 1) := by decide +kernel
theorem dX7_growWord_64 : decode cX7_growWord 64 = .ok (.getfield 25, 3) := by decide +kernel
theorem dX7_growWord_67 : decode cX7_growWord 67 = .ok (.getfield 112, 3) := by decide +kernel
theorem dX7_growWord_70 : decode cX7_growWord 70 = .ok (.iload_n 1, 1) := by decide +kernel
theorem dX7_growWord_71 : decode cX7_growWord 71 = .ok (.iaload, 1) := by decide +kernel
theorem dX7_growWord_72 : decode cX7_growWord 72 = .ok (.iload_n 3, 1) := by decide +kernel
theorem dX7_growWord_73 : decode cX7_growWord 73 = .ok (.aload_n 0, 1) := by decide +kernel
theorem dX7_growWord_74 : decode cX7_growWord 74 = .ok (.getfield 68, 3) := by decide +kernel
theorem dX7_growWord_77 : decode cX7_growWord 77 = .ok (.aload_n 0, 1) := by decide +kernel
theorem dX7_growWord_78 : decode cX7_growWord 78 = .ok (.getfield 78, 3) := by decide +kernel
theorem dX7_growWord_81 : decode cX7_growWord 81 = .ok (.aload_n 0, 1) := by decide +kernel
theorem dX7_growWord_82 : decode cX7_growWord 82 = .ok (.getfield 43, 3) := by decide +kernel
theorem dX7_growWord_85 : decode cX7_growWord 85 = .ok (.invokevirtual 115, 3) := by decide +kernel
theorem dX7_growWord_88 : decode cX7_growWord 88 = .ok (.istore 8, 2) := by decide +kernel
theorem dX7_growWord_90 : decode cX7_growWord 90 = .ok (.sipush 999, 3) := by decide +kernel
theorem dX7_growWord_93 : decode cX7_growWord 93 = .ok (.iload 7, 2) := by decide +kernel
theorem dX7_growWord_95 : decode cX7_growWord 95 = .ok (.iload 8, 2) := by decide +kernel
theorem dX7_growWord_97 : decode cX7_growWord 97 = .ok (.iadd, 1) := by decide +kernel
theorem dX7_growWord_98 : decode cX7_growWord 98 = .ok (.invokestatic 121, 3) := by decide +kernel
theorem dX7_growWord_101 : decode cX7_growWord 101 = .ok (.istore 9, 2) := by decide +kernel
theorem dX7_growWord_103 : decode cX7_growWord 103 = .ok (.iload 9, 2) := by decide +kernel
theorem dX7_growWord_105 : decode cX7_growWord 105 = .ok (.iload 4, 2) := by decide +kernel
theorem dX7_growWord_107 : decode cX7_growWord 107 = .ok (.if_icmp .gt 10, 3) := by decide +kernel
theorem dX7_growWord_110 : decode cX7_growWord 110 = .ok (.aload_n 0, 1) := by decide +kernel
theorem dX7_growWord_111 : decode cX7_growWord 111 = .ok (.iload_n 1, 1) := by decide +kernel
theorem dX7_growWord_112 : decode cX7_growWord 112 = .ok (.iload 9, 2) := by decide +kernel
theorem dX7_growWord_114 : decode cX7_growWord 114 = .ok (.invokevirtual 52, 3) := by decide +kernel
theorem dX7_growWord_117 : decode cX7_growWord 117 = .ok (.iload 5, 2) := by decide +kernel
theorem dX7_growWord_119 : decode cX7_growWord 119 = .ok (.iconst 1, 1) := by decide +kernel
theorem dX7_growWord_120 : decode cX7_growWord 120 = .ok (.iushr, 1) := by decide +kernel
theorem dX7_growWord_121 : decode cX7_growWord 121 = .ok (.istore 5, 2) := by decide +kernel
theorem dX7_growWord_123 : decode cX7_growWord 123 = .ok (.iinc 6 1, 3) := by decide +kernel
theorem dX7_growWord_126 : decode cX7_growWord 126 = .ok (.goto (-110), 3) := by decide +kernel
theorem dX7_growWord_129 : decode cX7_growWord 129 = .ok (.return_, 1) := by decide +kernel
theorem dX7_greatestSpared_0 : decode cX7_greatestSpared 0 = .ok (.sipush 999, 3) := by decide +kernel
theorem dX7_greatestSpared_3 : decode cX7_greatestSpared 3 = .ok (.istore_n 3, 1) := by decide +kernel
theorem dX7_greatestSpared_4 : decode cX7_greatestSpared 4 = .ok (.iconst 0, 1) := by decide +kernel
theorem dX7_greatestSpared_5 : decode cX7_greatestSpared 5 = .ok (.istore 4, 2) := by decide +kernel
theorem dX7_greatestSpared_7 : decode cX7_greatestSpared 7 = .ok (.iload 4, 2) := by decide +kernel
theorem dX7_greatestSpared_9 : decode cX7_greatestSpared 9 = .ok (.aload_n 0, 1) := by decide +kernel
theorem dX7_greatestSpared_10 : decode cX7_greatestSpared 10 = .ok (.getfield 25, 3) := by decide +kernel
theorem dX7_greatestSpared_13 : decode cX7_greatestSpared 13 = .ok (.getfield 127, 3) := by decide +kernel
theorem dX7_greatestSpared_16 : decode cX7_greatestSpared 16 = .ok (.if_icmp .ge 95, 3) := by decide +kernel
theorem dX7_greatestSpared_19 : decode cX7_greatestSpared 19 = .ok (.aload_n 1, 1) := by decide +kernel
theorem dX7_greatestSpared_20 : decode cX7_greatestSpared 20 = .ok (.iload 4, 2) := by decide +kernel
theorem dX7_greatestSpared_22 : decode cX7_greatestSpared 22 = .ok (.invokevirtual 130, 3) := by decide +kernel
theorem dX7_greatestSpared_25 : decode cX7_greatestSpared 25 = .ok (.iload_n 2, 1) := by decide +kernel
theorem dX7_greatestSpared_26 : decode cX7_greatestSpared 26 = .ok (.if_icmp .ne 79, 3) := by decide +kernel
theorem dX7_greatestSpared_29 : decode cX7_greatestSpared 29 = .ok (.aload_n 0, 1) := by decide +kernel
theorem dX7_greatestSpared_30 : decode cX7_greatestSpared 30 = .ok (.getfield 25, 3) := by decide +kernel
theorem dX7_greatestSpared_33 : decode cX7_greatestSpared 33 = .ok (.getfield 112, 3) := by decide +kernel
theorem dX7_greatestSpared_36 : decode cX7_greatestSpared 36 = .ok (.iload_n 2, 1) := by decide +kernel
theorem dX7_greatestSpared_37 : decode cX7_greatestSpared 37 = .ok (.iaload, 1) := by decide +kernel
theorem dX7_greatestSpared_38 : decode cX7_greatestSpared 38 = .ok (.aload_n 0, 1) := by decide +kernel
theorem dX7_greatestSpared_39 : decode cX7_greatestSpared 39 = .ok (.getfield 25, 3) := by decide +kernel
theorem dX7_greatestSpared_42 : decode cX7_greatestSpared 42 = .ok (.getfield 133, 3) := by decide +kernel
theorem dX7_greatestSpared_45 : decode cX7_greatestSpared 45 = .ok (.iload 4, 2) := by decide +kernel
theorem dX7_greatestSpared_47 : decode cX7_greatestSpared 47 = .ok (.iaload, 1) := by decide +kernel
theorem dX7_greatestSpared_48 : decode cX7_greatestSpared 48 = .ok (.isub, 1) := by decide +kernel
theorem dX7_greatestSpared_49 : decode cX7_greatestSpared 49 = .ok (.istore 5, 2) := by decide +kernel
theorem dX7_greatestSpared_51 : decode cX7_greatestSpared 51 = .ok (.aload_n 1, 1) := by decide +kernel
theorem dX7_greatestSpared_52 : decode cX7_greatestSpared 52 = .ok (.getfield 136, 3) := by decide +kernel
theorem dX7_greatestSpared_55 : decode cX7_greatestSpared 55 = .ok (.iload 4, 2) := by decide +kernel
theorem dX7_greatestSpared_57 : decode cX7_greatestSpared 57 = .ok (.iaload, 1) := by decide +kernel
theorem dX7_greatestSpared_58 : decode cX7_greatestSpared 58 = .ok (.istore 6, 2) := by decide +kernel
theorem dX7_greatestSpared_60 : decode cX7_greatestSpared 60 = .ok (.iload 6, 2) := by decide +kernel
theorem dX7_greatestSpared_62 : decode cX7_greatestSpared 62 = .ok (.iconst (-1), 1) := by decide +kernel
theorem dX7_greatestSpared_63 : decode cX7_greatestSpared 63 = .ok (.if_icmp .eq 35, 3) := by decide +kernel
theorem dX7_greatestSpared_66 : decode cX7_greatestSpared 66 = .ok (.aload_n 1, 1) := by decide +kernel
theorem dX7_greatestSpared_67 : decode cX7_greatestSpared 67 = .ok (.iload 6, 2) := by decide +kernel
theorem dX7_greatestSpared_69 : decode cX7_greatestSpared 69 = .ok (.invokevirtual 49, 3) := by decide +kernel
theorem dX7_greatestSpared_72 : decode cX7_greatestSpared 72 = .ok (.iload 6, 2) := by decide +kernel
theorem dX7_greatestSpared_74 : decode cX7_greatestSpared 74 = .ok (.aload_n 0, 1) := by decide +kernel
theorem dX7_greatestSpared_75 : decode cX7_greatestSpared 75 = .ok (.getfield 43, 3) := by decide +kernel
theorem dX7_greatestSpared_78 : decode cX7_greatestSpared 78 = .ok (.if_icmp .ge 7, 3) := by decide +kernel
theorem dX7_greatestSpared_81 : decode cX7_greatestSpared 81 = .ok (.iconst 0, 1) := by decide +kernel
theorem dX7_greatestSpared_82 : decode cX7_greatestSpared 82 = .ok (.goto 4, 3) := by decide +kernel
theorem dX7_greatestSpared_85 : decode cX7_greatestSpared 85 = .ok (.iconst 1, 1) := by decide +kernel
theorem dX7_greatestSpared_86 : decode cX7_greatestSpared 86 = .ok (.isub, 1) := by decide +kernel
theorem dX7_greatestSpared_87 : decode cX7_greatestSpared 87 = .ok (.istore 7, 2) := by decide +kernel
theorem dX7_greatestSpared_89 : decode cX7_greatestSpared 89 = .ok (.iload 5, 2) := by decide +kernel
theorem dX7_greatestSpared_91 : decode cX7_greatestSpared 91 = .ok (.iload 7, 2) := by decide +kernel
theorem dX7_greatestSpared_93 : decode cX7_greatestSpared 93 = .ok (.invokestatic 139, 3) := by decide +kernel
theorem dX7_greatestSpared_96 : decode cX7_greatestSpared 96 = .ok (.istore 5, 2) := by decide +kernel
theorem dX7_greatestSpared_98 : decode cX7_greatestSpared 98 = .ok (.iload_n 3, 1) := by decide +kernel
theorem dX7_greatestSpared_99 : decode cX7_greatestSpared 99 = .ok (.iload 5, 2) := by decide +kernel
theorem dX7_greatestSpared_101 : decode cX7_greatestSpared 101 = .ok (.invokestatic 121, 3) := by decide +kernel
theorem dX7_greatestSpared_104 : decode cX7_greatestSpared 104 = .ok (.istore_n 3, 1) := by decide +kernel
theorem dX7_greatestSpared_105 : decode cX7_greatestSpared 105 = .ok (.iinc 4 1, 3) := by decide +kernel
theorem dX7_greatestSpared_108 : decode cX7_greatestSpared 108 = .ok (.goto (-101), 3) := by decide +kernel
theorem dX7_greatestSpared_111 : decode cX7_greatestSpared 111 = .ok (.iload_n 3, 1) := by decide +kernel
theorem dX7_greatestSpared_112 : decode cX7_greatestSpared 112 = .ok (.ireturn, 1) := by decide +kernel
theorem dX7_add_0 : decode cX7_add 0 = .ok (.iload_n 2, 1) := by decide +kernel
theorem dX7_add_1 : decode cX7_add 1 = .ok (.bipush 32, 2) := by decide +kernel
theorem dX7_add_3 : decode cX7_add 3 = .ok (.idiv, 1) := by decide +kernel
theorem dX7_add_4 : decode cX7_add 4 = .ok (.istore_n 3, 1) := by decide +kernel
theorem dX7_add_5 : decode cX7_add 5 = .ok (.aload_n 0, 1) := by decide +kernel
theorem dX7_add_6 : decode cX7_add 6 = .ok (.getfield 11, 3) := by decide +kernel
theorem dX7_add_9 : decode cX7_add 9 = .ok (.iload_n 1, 1) := by decide +kernel
theorem dX7_add_10 : decode cX7_add 10 = .ok (.bipush 32, 2) := by decide +kernel
theorem dX7_add_12 : decode cX7_add 12 = .ok (.imul, 1) := by decide +kernel
theorem dX7_add_13 : decode cX7_add 13 = .ok (.iload_n 3, 1) := by decide +kernel
theorem dX7_add_14 : decode cX7_add 14 = .ok (.iadd, 1) := by decide +kernel
theorem dX7_add_15 : decode cX7_add 15 = .ok (.dup2, 1) := by decide +kernel
theorem dX7_add_16 : decode cX7_add 16 = .ok (.iaload, 1) := by decide +kernel
theorem dX7_add_17 : decode cX7_add 17 = .ok (.iconst 1, 1) := by decide +kernel
theorem dX7_add_18 : decode cX7_add 18 = .ok (.iload_n 2, 1) := by decide +kernel
theorem dX7_add_19 : decode cX7_add 19 = .ok (.bipush 32, 2) := by decide +kernel
theorem dX7_add_21 : decode cX7_add 21 = .ok (.irem, 1) := by decide +kernel
theorem dX7_add_22 : decode cX7_add 22 = .ok (.ishl, 1) := by decide +kernel
theorem dX7_add_23 : decode cX7_add 23 = .ok (.ior, 1) := by decide +kernel
theorem dX7_add_24 : decode cX7_add 24 = .ok (.iastore, 1) := by decide +kernel
theorem dX7_add_25 : decode cX7_add 25 = .ok (.aload_n 0, 1) := by decide +kernel
theorem dX7_add_26 : decode cX7_add 26 = .ok (.aload_n 0, 1) := by decide +kernel
theorem dX7_add_27 : decode cX7_add 27 = .ok (.getfield 18, 3) := by decide +kernel
theorem dX7_add_30 : decode cX7_add 30 = .ok (.iload_n 3, 1) := by decide +kernel
theorem dX7_add_31 : decode cX7_add 31 = .ok (.invokestatic 121, 3) := by decide +kernel
theorem dX7_add_34 : decode cX7_add 34 = .ok (.putfield 18, 3) := by decide +kernel
theorem dX7_add_37 : decode cX7_add 37 = .ok (.aload_n 0, 1) := by decide +kernel
theorem dX7_add_38 : decode cX7_add 38 = .ok (.aload_n 0, 1) := by decide +kernel
theorem dX7_add_39 : decode cX7_add 39 = .ok (.getfield 22, 3) := by decide +kernel
theorem dX7_add_42 : decode cX7_add 42 = .ok (.iload_n 3, 1) := by decide +kernel
theorem dX7_add_43 : decode cX7_add 43 = .ok (.invokestatic 139, 3) := by decide +kernel
theorem dX7_add_46 : decode cX7_add 46 = .ok (.putfield 22, 3) := by decide +kernel
theorem dX7_add_49 : decode cX7_add 49 = .ok (.return_, 1) := by decide +kernel
theorem dX7_hasAny_0 : decode cX7_hasAny 0 = .ok (.aload_n 0, 1) := by decide +kernel
theorem dX7_hasAny_1 : decode cX7_hasAny 1 = .ok (.getfield 18, 3) := by decide +kernel
theorem dX7_hasAny_4 : decode cX7_hasAny 4 = .ok (.istore_n 2, 1) := by decide +kernel
theorem dX7_hasAny_5 : decode cX7_hasAny 5 = .ok (.iload_n 2, 1) := by decide +kernel
theorem dX7_hasAny_6 : decode cX7_hasAny 6 = .ok (.aload_n 0, 1) := by decide +kernel
theorem dX7_hasAny_7 : decode cX7_hasAny 7 = .ok (.getfield 22, 3) := by decide +kernel
theorem dX7_hasAny_10 : decode cX7_hasAny 10 = .ok (.if_icmp .gt 25, 3) := by decide +kernel
theorem dX7_hasAny_13 : decode cX7_hasAny 13 = .ok (.aload_n 0, 1) := by decide +kernel
theorem dX7_hasAny_14 : decode cX7_hasAny 14 = .ok (.getfield 11, 3) := by decide +kernel
theorem dX7_hasAny_17 : decode cX7_hasAny 17 = .ok (.iload_n 1, 1) := by decide +kernel
theorem dX7_hasAny_18 : decode cX7_hasAny 18 = .ok (.bipush 32, 2) := by decide +kernel
theorem dX7_hasAny_20 : decode cX7_hasAny 20 = .ok (.imul, 1) := by decide +kernel
theorem dX7_hasAny_21 : decode cX7_hasAny 21 = .ok (.iload_n 2, 1) := by decide +kernel
theorem dX7_hasAny_22 : decode cX7_hasAny 22 = .ok (.iadd, 1) := by decide +kernel
theorem dX7_hasAny_23 : decode cX7_hasAny 23 = .ok (.iaload, 1) := by decide +kernel
theorem dX7_hasAny_24 : decode cX7_hasAny 24 = .ok (.ifCond .eq 5, 3) := by decide +kernel
theorem dX7_hasAny_27 : decode cX7_hasAny 27 = .ok (.iconst 1, 1) := by decide +kernel
theorem dX7_hasAny_28 : decode cX7_hasAny 28 = .ok (.ireturn, 1) := by decide +kernel
theorem dX7_hasAny_29 : decode cX7_hasAny 29 = .ok (.iinc 2 1, 3) := by decide +kernel
theorem dX7_hasAny_32 : decode cX7_hasAny 32 = .ok (.goto (-27), 3) := by decide +kernel
theorem dX7_hasAny_35 : decode cX7_hasAny 35 = .ok (.iconst 0, 1) := by decide +kernel
theorem dX7_hasAny_36 : decode cX7_hasAny 36 = .ok (.ireturn, 1) := by decide +kernel
theorem dX7_clear_0 : decode cX7_clear 0 = .ok (.iconst 0, 1) := by decide +kernel
theorem dX7_clear_1 : decode cX7_clear 1 = .ok (.istore_n 1, 1) := by decide +kernel
theorem dX7_clear_2 : decode cX7_clear 2 = .ok (.iload_n 1, 1) := by decide +kernel
theorem dX7_clear_3 : decode cX7_clear 3 = .ok (.bipush 8, 2) := by decide +kernel
theorem dX7_clear_5 : decode cX7_clear 5 = .ok (.if_icmp .ge 40, 3) := by decide +kernel
theorem dX7_clear_8 : decode cX7_clear 8 = .ok (.aload_n 0, 1) := by decide +kernel
theorem dX7_clear_9 : decode cX7_clear 9 = .ok (.getfield 18, 3) := by decide +kernel
theorem dX7_clear_12 : decode cX7_clear 12 = .ok (.istore_n 2, 1) := by decide +kernel
theorem dX7_clear_13 : decode cX7_clear 13 = .ok (.iload_n 2, 1) := by decide +kernel
theorem dX7_clear_14 : decode cX7_clear 14 = .ok (.aload_n 0, 1) := by decide +kernel
theorem dX7_clear_15 : decode cX7_clear 15 = .ok (.getfield 22, 3) := by decide +kernel
theorem dX7_clear_18 : decode cX7_clear 18 = .ok (.if_icmp .gt 21, 3) := by decide +kernel
theorem dX7_clear_21 : decode cX7_clear 21 = .ok (.aload_n 0, 1) := by decide +kernel
theorem dX7_clear_22 : decode cX7_clear 22 = .ok (.getfield 11, 3) := by decide +kernel
theorem dX7_clear_25 : decode cX7_clear 25 = .ok (.iload_n 1, 1) := by decide +kernel
theorem dX7_clear_26 : decode cX7_clear 26 = .ok (.bipush 32, 2) := by decide +kernel
theorem dX7_clear_28 : decode cX7_clear 28 = .ok (.imul, 1) := by decide +kernel
theorem dX7_clear_29 : decode cX7_clear 29 = .ok (.iload_n 2, 1) := by decide +kernel
theorem dX7_clear_30 : decode cX7_clear 30 = .ok (.iadd, 1) := by decide +kernel
theorem dX7_clear_31 : decode cX7_clear 31 = .ok (.iconst 0, 1) := by decide +kernel
theorem dX7_clear_32 : decode cX7_clear 32 = .ok (.iastore, 1) := by decide +kernel
theorem dX7_clear_33 : decode cX7_clear 33 = .ok (.iinc 2 1, 3) := by decide +kernel
theorem dX7_clear_36 : decode cX7_clear 36 = .ok (.goto (-23), 3) := by decide +kernel
theorem dX7_clear_39 : decode cX7_clear 39 = .ok (.iinc 1 1, 3) := by decide +kernel
theorem dX7_clear_42 : decode cX7_clear 42 = .ok (.goto (-40), 3) := by decide +kernel
theorem dX7_clear_45 : decode cX7_clear 45 = .ok (.aload_n 0, 1) := by decide +kernel
theorem dX7_clear_46 : decode cX7_clear 46 = .ok (.bipush 32, 2) := by decide +kernel
theorem dX7_clear_48 : decode cX7_clear 48 = .ok (.putfield 18, 3) := by decide +kernel
theorem dX7_clear_51 : decode cX7_clear 51 = .ok (.aload_n 0, 1) := by decide +kernel
theorem dX7_clear_52 : decode cX7_clear 52 = .ok (.iconst (-1), 1) := by decide +kernel
theorem dX7_clear_53 : decode cX7_clear 53 = .ok (.putfield 22, 3) := by decide +kernel
theorem dX7_clear_56 : decode cX7_clear 56 = .ok (.return_, 1) := by decide +kernel
theorem dX8_init_0 : decode cX8_init 0 = .ok (.aload_n 0, 1) := by decide +kernel
theorem dX8_init_1 : decode cX8_init 1 = .ok (.invokespecial 5, 3) := by decide +kernel
theorem dX8_init_4 : decode cX8_init 4 = .ok (.aload_n 0, 1) := by decide +kernel
theorem dX8_init_5 : decode cX8_init 5 = .ok (.bipush 47, 2) := by decide +kernel
theorem dX8_init_7 : decode cX8_init 7 = .ok (.newarray .int, 2) := by decide +kernel
theorem dX8_init_9 : decode cX8_init 9 = .ok (.putfield 11, 3) := by decide +kernel
theorem dX8_init_12 : decode cX8_init 12 = .ok (.aload_n 0, 1) := by decide +kernel
theorem dX8_init_13 : decode cX8_init 13 = .ok (.iconst 5, 1) := by decide +kernel
theorem dX8_init_14 : decode cX8_init 14 = .ok (.newarray .int, 2) := by decide +kernel
theorem dX8_init_16 : decode cX8_init 16 = .ok (.putfield 15, 3) := by decide +kernel
theorem dX8_init_19 : decode cX8_init 19 = .ok (.aload_n 0, 1) := by decide +kernel
theorem dX8_init_20 : decode cX8_init 20 = .ok (.aload_n 1, 1) := by decide +kernel
theorem dX8_init_21 : decode cX8_init 21 = .ok (.putfield 18, 3) := by decide +kernel
theorem dX8_init_24 : decode cX8_init 24 = .ok (.aload_n 0, 1) := by decide +kernel
theorem dX8_init_25 : decode cX8_init 25 = .ok (.aload_n 2, 1) := by decide +kernel
theorem dX8_init_26 : decode cX8_init 26 = .ok (.putfield 22, 3) := by decide +kernel
theorem dX8_init_29 : decode cX8_init 29 = .ok (.return_, 1) := by decide +kernel
theorem dX8_copyFrom_0 : decode cX8_copyFrom 0 = .ok (.aload_n 1, 1) := by decide +kernel
theorem dX8_copyFrom_1 : decode cX8_copyFrom 1 = .ok (.getfield 11, 3) := by decide +kernel
theorem dX8_copyFrom_4 : decode cX8_copyFrom 4 = .ok (.iconst 0, 1) := by decide +kernel
theorem dX8_copyFrom_5 : decode cX8_copyFrom 5 = .ok (.aload_n 0, 1) := by decide +kernel
theorem dX8_copyFrom_6 : decode cX8_copyFrom 6 = .ok (.getfield 11, 3) := by decide +kernel
theorem dX8_copyFrom_9 : decode cX8_copyFrom 9 = .ok (.iconst 0, 1) := by decide +kernel
theorem dX8_copyFrom_10 : decode cX8_copyFrom 10 = .ok (.bipush 47, 2) := by decide +kernel
theorem dX8_copyFrom_12 : decode cX8_copyFrom 12 = .ok (.invokestatic 26, 3) := by decide +kernel
theorem dX8_copyFrom_15 : decode cX8_copyFrom 15 = .ok (.return_, 1) := by decide +kernel
theorem dX8_begin_0 : decode cX8_begin 0 = .ok (.aload_n 0, 1) := by decide +kernel
theorem dX8_begin_1 : decode cX8_begin 1 = .ok (.getfield 11, 3) := by decide +kernel
theorem dX8_begin_4 : decode cX8_begin 4 = .ok (.iconst 0, 1) := by decide +kernel
theorem dX8_begin_5 : decode cX8_begin 5 = .ok (.iconst 0, 1) := by decide +kernel
theorem dX8_begin_6 : decode cX8_begin 6 = .ok (.iastore, 1) := by decide +kernel
theorem dX8_begin_7 : decode cX8_begin 7 = .ok (.aload_n 0, 1) := by decide +kernel
theorem dX8_begin_8 : decode cX8_begin 8 = .ok (.getfield 11, 3) := by decide +kernel
theorem dX8_begin_11 : decode cX8_begin 11 = .ok (.iconst 1, 1) := by decide +kernel
theorem dX8_begin_12 : decode cX8_begin 12 = .ok (.iconst 1, 1) := by decide +kernel
theorem dX8_begin_13 : decode cX8_begin 13 = .ok (.aload_n 0, 1) := by decide +kernel
theorem dX8_begin_14 : decode cX8_begin 14 = .ok (.getfield 18, 3) := by decide +kernel
theorem dX8_begin_17 : decode cX8_begin 17 = .ok (.getfield 32, 3) := by decide +kernel
theorem dX8_begin_20 : decode cX8_begin 20 = .ok (.ishl, 1) := by decide +kernel
theorem dX8_begin_21 : decode cX8_begin 21 = .ok (.iconst 1, 1) := by decide +kernel
theorem dX8_begin_22 : decode cX8_begin 22 = .ok (.isub, 1) := by decide +kernel
theorem dX8_begin_23 : decode cX8_begin 23 = .ok (.iastore, 1) := by decide +kernel
theorem dX8_begin_24 : decode cX8_begin 24 = .ok (.aload_n 0, 1) := by decide +kernel
theorem dX8_begin_25 : decode cX8_begin 25 = .ok (.getfield 11, 3) := by decide +kernel
theorem dX8_begin_28 : decode cX8_begin 28 = .ok (.iconst 2, 1) := by decide +kernel
theorem dX8_begin_29 : decode cX8_begin 29 = .ok (.iconst 0, 1) := by decide +kernel
theorem dX8_begin_30 : decode cX8_begin 30 = .ok (.iastore, 1) := by decide +kernel
theorem dX8_begin_31 : decode cX8_begin 31 = .ok (.aload_n 0, 1) := by decide +kernel
theorem dX8_begin_32 : decode cX8_begin 32 = .ok (.getfield 11, 3) := by decide +kernel
theorem dX8_begin_35 : decode cX8_begin 35 = .ok (.iconst 3, 1) := by decide +kernel
theorem dX8_begin_36 : decode cX8_begin 36 = .ok (.iconst 0, 1) := by decide +kernel
theorem dX8_begin_37 : decode cX8_begin 37 = .ok (.iastore, 1) := by decide +kernel
theorem dX8_begin_38 : decode cX8_begin 38 = .ok (.aload_n 0, 1) := by decide +kernel
theorem dX8_begin_39 : decode cX8_begin 39 = .ok (.getfield 11, 3) := by decide +kernel
theorem dX8_begin_42 : decode cX8_begin 42 = .ok (.iconst 4, 1) := by decide +kernel
theorem dX8_begin_43 : decode cX8_begin 43 = .ok (.iconst 0, 1) := by decide +kernel
theorem dX8_begin_44 : decode cX8_begin 44 = .ok (.iastore, 1) := by decide +kernel
theorem dX8_begin_45 : decode cX8_begin 45 = .ok (.iconst 0, 1) := by decide +kernel
theorem dX8_begin_46 : decode cX8_begin 46 = .ok (.istore_n 1, 1) := by decide +kernel
theorem dX8_begin_47 : decode cX8_begin 47 = .ok (.iload_n 1, 1) := by decide +kernel
theorem dX8_begin_48 : decode cX8_begin 48 = .ok (.aload_n 0, 1) := by decide +kernel
theorem dX8_begin_49 : decode cX8_begin 49 = .ok (.getfield 18, 3) := by decide +kernel
theorem dX8_begin_52 : decode cX8_begin 52 = .ok (.getfield 32, 3) := by decide +kernel
theorem dX8_begin_55 : decode cX8_begin 55 = .ok (.if_icmp .ge 64, 3) := by decide +kernel
theorem dX8_begin_58 : decode cX8_begin 58 = .ok (.aload_n 0, 1) := by decide +kernel
theorem dX8_begin_59 : decode cX8_begin 59 = .ok (.getfield 11, 3) := by decide +kernel
theorem dX8_begin_62 : decode cX8_begin 62 = .ok (.iconst 5, 1) := by decide +kernel
theorem dX8_begin_63 : decode cX8_begin 63 = .ok (.iload_n 1, 1) := by decide +kernel
theorem dX8_begin_64 : decode cX8_begin 64 = .ok (.iadd, 1) := by decide +kernel
theorem dX8_begin_65 : decode cX8_begin 65 = .ok (.aload_n 0, 1) := by decide +kernel
theorem dX8_begin_66 : decode cX8_begin 66 = .ok (.getfield 18, 3) := by decide +kernel
theorem dX8_begin_69 : decode cX8_begin 69 = .ok (.getfield 38, 3) := by decide +kernel
theorem dX8_begin_72 : decode cX8_begin 72 = .ok (.iload_n 1, 1) := by decide +kernel
theorem dX8_begin_73 : decode cX8_begin 73 = .ok (.iaload, 1) := by decide +kernel
theorem dX8_begin_74 : decode cX8_begin 74 = .ok (.iastore, 1) := by decide +kernel
theorem dX8_begin_75 : decode cX8_begin 75 = .ok (.aload_n 0, 1) := by decide +kernel
theorem dX8_begin_76 : decode cX8_begin 76 = .ok (.getfield 11, 3) := by decide +kernel
theorem dX8_begin_79 : decode cX8_begin 79 = .ok (.bipush 13, 2) := by decide +kernel
theorem dX8_begin_81 : decode cX8_begin 81 = .ok (.iload_n 1, 1) := by decide +kernel
theorem dX8_begin_82 : decode cX8_begin 82 = .ok (.iadd, 1) := by decide +kernel
theorem dX8_begin_83 : decode cX8_begin 83 = .ok (.aload_n 0, 1) := by decide +kernel
theorem dX8_begin_84 : decode cX8_begin 84 = .ok (.getfield 18, 3) := by decide +kernel
theorem dX8_begin_87 : decode cX8_begin 87 = .ok (.getfield 41, 3) := by decide +kernel
theorem dX8_begin_90 : decode cX8_begin 90 = .ok (.iload_n 1, 1) := by decide +kernel
theorem dX8_begin_91 : decode cX8_begin 91 = .ok (.iaload, 1) := by decide +kernel
theorem dX8_begin_92 : decode cX8_begin 92 = .ok (.iastore, 1) := by decide +kernel
theorem dX8_begin_93 : decode cX8_begin 93 = .ok (.aload_n 0, 1) := by decide +kernel
theorem dX8_begin_94 : decode cX8_begin 94 = .ok (.getfield 11, 3) := by decide +kernel
theorem dX8_begin_97 : decode cX8_begin 97 = .ok (.bipush 21, 2) := by decide +kernel
theorem dX8_begin_99 : decode cX8_begin 99 = .ok (.iload_n 1, 1) := by decide +kernel
theorem dX8_begin_100 : decode cX8_begin 100 = .ok (.iadd, 1) := by decide +kernel
theorem dX8_begin_101 : decode cX8_begin 101 = .ok (.iconst (-1), 1) := by decide +kernel
theorem dX8_begin_102 : decode cX8_begin 102 = .ok (.iastore, 1) := by decide +kernel
theorem dX8_begin_103 : decode cX8_begin 103 = .ok (.aload_n 0, 1) := by decide +kernel
theorem dX8_begin_104 : decode cX8_begin 104 = .ok (.getfield 11, 3) := by decide +kernel
theorem dX8_begin_107 : decode cX8_begin 107 = .ok (.bipush 29, 2) := by decide +kernel
theorem dX8_begin_109 : decode cX8_begin 109 = .ok (.iload_n 1, 1) := by decide +kernel
theorem dX8_begin_110 : decode cX8_begin 110 = .ok (.iadd, 1) := by decide +kernel
theorem dX8_begin_111 : decode cX8_begin 111 = .ok (.iconst (-1), 1) := by decide +kernel
theorem dX8_begin_112 : decode cX8_begin 112 = .ok (.iastore, 1) := by decide +kernel
theorem dX8_begin_113 : decode cX8_begin 113 = .ok (.iinc 1 1, 3) := by decide +kernel
theorem dX8_begin_116 : decode cX8_begin 116 = .ok (.goto (-69), 3) := by decide +kernel
theorem dX8_begin_119 : decode cX8_begin 119 = .ok (.iconst 0, 1) := by decide +kernel
theorem dX8_begin_120 : decode cX8_begin 120 = .ok (.istore_n 1, 1) := by decide +kernel
theorem dX8_begin_121 : decode cX8_begin 121 = .ok (.iload_n 1, 1) := by decide +kernel
theorem dX8_begin_122 : decode cX8_begin 122 = .ok (.aload_n 0, 1) := by decide +kernel
theorem dX8_begin_123 : decode cX8_begin 123 = .ok (.getfield 18, 3) := by decide +kernel
theorem dX8_begin_126 : decode cX8_begin 126 = .ok (.getfield 44, 3) := by decide +kernel
theorem dX8_begin_129 : decode cX8_begin 129 = .ok (.if_icmp .ge 37, 3) := by decide +kernel
theorem dX8_begin_132 : decode cX8_begin 132 = .ok (.aload_n 0, 1) := by decide +kernel
theorem dX8_begin_133 : decode cX8_begin 133 = .ok (.getfield 11, 3) := by decide +kernel
theorem dX8_begin_136 : decode cX8_begin 136 = .ok (.bipush 37, 2) := by decide +kernel
theorem dX8_begin_138 : decode cX8_begin 138 = .ok (.iload_n 1, 1) := by decide +kernel
theorem dX8_begin_139 : decode cX8_begin 139 = .ok (.iadd, 1) := by decide +kernel
theorem dX8_begin_140 : decode cX8_begin 140 = .ok (.aload_n 0, 1) := by decide +kernel
theorem dX8_begin_141 : decode cX8_begin 141 = .ok (.getfield 18, 3) := by decide +kernel
theorem dX8_begin_144 : decode cX8_begin 144 = .ok (.getfield 47, 3) := by decide +kernel
theorem dX8_begin_147 : decode cX8_begin 147 = .ok (.iload_n 1, 1) := by decide +kernel
theorem dX8_begin_148 : decode cX8_begin 148 = .ok (.iaload, 1) := by decide +kernel
theorem dX8_begin_149 : decode cX8_begin 149 = .ok (.iastore, 1) := by decide +kernel
theorem dX8_begin_150 : decode cX8_begin 150 = .ok (.aload_n 0, 1) := by decide +kernel
theorem dX8_begin_151 : decode cX8_begin 151 = .ok (.getfield 11, 3) := by decide +kernel
theorem dX8_begin_154 : decode cX8_begin 154 = .ok (.bipush 42, 2) := by decide +kernel
theorem dX8_begin_156 : decode cX8_begin 156 = .ok (.iload_n 1, 1) := by decide +kernel
theorem dX8_begin_157 : decode cX8_begin 157 = .ok (.iadd, 1) := by decide +kernel
theorem dX8_begin_158 : decode cX8_begin 158 = .ok (.iconst 0, 1) := by decide +kernel
theorem dX8_begin_159 : decode cX8_begin 159 = .ok (.iastore, 1) := by decide +kernel
theorem dX8_begin_160 : decode cX8_begin 160 = .ok (.iinc 1 1, 3) := by decide +kernel
theorem dX8_begin_163 : decode cX8_begin 163 = .ok (.goto (-42), 3) := by decide +kernel
theorem dX8_begin_166 : decode cX8_begin 166 = .ok (.return_, 1) := by decide +kernel
theorem dX8_night_0 : decode cX8_night 0 = .ok (.aload_n 0, 1) := by decide +kernel
theorem dX8_night_1 : decode cX8_night 1 = .ok (.getfield 11, 3) := by decide +kernel
theorem dX8_night_4 : decode cX8_night 4 = .ok (.iconst 0, 1) := by decide +kernel
theorem dX8_night_5 : decode cX8_night 5 = .ok (.iaload, 1) := by decide +kernel
theorem dX8_night_6 : decode cX8_night 6 = .ok (.ireturn, 1) := by decide +kernel
theorem dX8_living_0 : decode cX8_living 0 = .ok (.aload_n 0, 1) := by decide +kernel
theorem dX8_living_1 : decode cX8_living 1 = .ok (.getfield 11, 3) := by decide +kernel
theorem dX8_living_4 : decode cX8_living 4 = .ok (.iconst 1, 1) := by decide +kernel
theorem dX8_living_5 : decode cX8_living 5 = .ok (.iaload, 1) := by decide +kernel
theorem dX8_living_6 : decode cX8_living 6 = .ok (.ireturn, 1) := by decide +kernel
theorem dX8_onMat_0 : decode cX8_onMat 0 = .ok (.aload_n 0, 1) := by decide +kernel
theorem dX8_onMat_1 : decode cX8_onMat 1 = .ok (.getfield 11, 3) := by decide +kernel
theorem dX8_onMat_4 : decode cX8_onMat 4 = .ok (.iconst 2, 1) := by decide +kernel
theorem dX8_onMat_5 : decode cX8_onMat 5 = .ok (.iaload, 1) := by decide +kernel
theorem dX8_onMat_6 : decode cX8_onMat 6 = .ok (.ireturn, 1) := by decide +kernel
theorem dX8_joined_0 : decode cX8_joined 0 = .ok (.aload_n 0, 1) := by decide +kernel
theorem dX8_joined_1 : decode cX8_joined 1 = .ok (.getfield 11, 3) := by decide +kernel
theorem dX8_joined_4 : decode cX8_joined 4 = .ok (.iconst 3, 1) := by decide +kernel
theorem dX8_joined_5 : decode cX8_joined 5 = .ok (.iaload, 1) := by decide +kernel
theorem dX8_joined_6 : decode cX8_joined 6 = .ok (.ireturn, 1) := by decide +kernel
theorem dX8_shutWays_0 : decode cX8_shutWays 0 = .ok (.aload_n 0, 1) := by decide +kernel
theorem dX8_shutWays_1 : decode cX8_shutWays 1 = .ok (.getfield 11, 3) := by decide +kernel
theorem dX8_shutWays_4 : decode cX8_shutWays 4 = .ok (.iconst 4, 1) := by decide +kernel
theorem dX8_shutWays_5 : decode cX8_shutWays 5 = .ok (.iaload, 1) := by decide +kernel
theorem dX8_shutWays_6 : decode cX8_shutWays 6 = .ok (.ireturn, 1) := by decide +kernel
theorem dX8_roomOf_0 : decode cX8_roomOf 0 = .ok (.aload_n 0, 1) := by decide +kernel
theorem dX8_roomOf_1 : decode cX8_roomOf 1 = .ok (.getfield 11, 3) := by decide +kernel
theorem dX8_roomOf_4 : decode cX8_roomOf 4 = .ok (.iconst 5, 1) := by decide +kernel
theorem dX8_roomOf_5 : decode cX8_roomOf 5 = .ok (.iload_n 1, 1) := by decide +kernel
theorem dX8_roomOf_6 : decode cX8_roomOf 6 = .ok (.iadd, 1) := by decide +kernel
theorem dX8_roomOf_7 : decode cX8_roomOf 7 = .ok (.iaload, 1) := by decide +kernel
theorem dX8_roomOf_8 : decode cX8_roomOf 8 = .ok (.ireturn, 1) := by decide +kernel
theorem dX8_size_0 : decode cX8_size 0 = .ok (.aload_n 0, 1) := by decide +kernel
theorem dX8_size_1 : decode cX8_size 1 = .ok (.getfield 11, 3) := by decide +kernel
theorem dX8_size_4 : decode cX8_size 4 = .ok (.bipush 13, 2) := by decide +kernel
theorem dX8_size_6 : decode cX8_size 6 = .ok (.iload_n 1, 1) := by decide +kernel
theorem dX8_size_7 : decode cX8_size 7 = .ok (.iadd, 1) := by decide +kernel
theorem dX8_size_8 : decode cX8_size 8 = .ok (.iaload, 1) := by decide +kernel
theorem dX8_size_9 : decode cX8_size 9 = .ok (.ireturn, 1) := by decide +kernel
theorem dX8_takenWhen_0 : decode cX8_takenWhen 0 = .ok (.aload_n 0, 1) := by decide +kernel
theorem dX8_takenWhen_1 : decode cX8_takenWhen 1 = .ok (.getfield 11, 3) := by decide +kernel
theorem dX8_takenWhen_4 : decode cX8_takenWhen 4 = .ok (.bipush 21, 2) := by decide +kernel
theorem dX8_takenWhen_6 : decode cX8_takenWhen 6 = .ok (.iload_n 1, 1) := by decide +kernel
theorem dX8_takenWhen_7 : decode cX8_takenWhen 7 = .ok (.iadd, 1) := by decide +kernel
theorem dX8_takenWhen_8 : decode cX8_takenWhen 8 = .ok (.iaload, 1) := by decide +kernel
theorem dX8_takenWhen_9 : decode cX8_takenWhen 9 = .ok (.ireturn, 1) := by decide +kernel
theorem dX8_takenBy_0 : decode cX8_takenBy 0 = .ok (.aload_n 0, 1) := by decide +kernel
theorem dX8_takenBy_1 : decode cX8_takenBy 1 = .ok (.getfield 11, 3) := by decide +kernel
theorem dX8_takenBy_4 : decode cX8_takenBy 4 = .ok (.bipush 29, 2) := by decide +kernel
theorem dX8_takenBy_6 : decode cX8_takenBy 6 = .ok (.iload_n 1, 1) := by decide +kernel
theorem dX8_takenBy_7 : decode cX8_takenBy 7 = .ok (.iadd, 1) := by decide +kernel
theorem dX8_takenBy_8 : decode cX8_takenBy 8 = .ok (.iaload, 1) := by decide +kernel
theorem dX8_takenBy_9 : decode cX8_takenBy 9 = .ok (.ireturn, 1) := by decide +kernel
theorem dX8_roomOfCat_0 : decode cX8_roomOfCat 0 = .ok (.aload_n 0, 1) := by decide +kernel
theorem dX8_roomOfCat_1 : decode cX8_roomOfCat 1 = .ok (.getfield 11, 3) := by decide +kernel
theorem dX8_roomOfCat_4 : decode cX8_roomOfCat 4 = .ok (.bipush 37, 2) := by decide +kernel
theorem dX8_roomOfCat_6 : decode cX8_roomOfCat 6 = .ok (.iload_n 1, 1) := by decide +kernel
theorem dX8_roomOfCat_7 : decode cX8_roomOfCat 7 = .ok (.iadd, 1) := by decide +kernel
theorem dX8_roomOfCat_8 : decode cX8_roomOfCat 8 = .ok (.iaload, 1) := by decide +kernel
theorem dX8_roomOfCat_9 : decode cX8_roomOfCat 9 = .ok (.ireturn, 1) := by decide +kernel
theorem dX8_took_0 : decode cX8_took 0 = .ok (.aload_n 0, 1) := by decide +kernel
theorem dX8_took_1 : decode cX8_took 1 = .ok (.getfield 11, 3) := by decide +kernel
theorem dX8_took_4 : decode cX8_took 4 = .ok (.bipush 42, 2) := by decide +kernel
theorem dX8_took_6 : decode cX8_took 6 = .ok (.iload_n 1, 1) := by decide +kernel
theorem dX8_took_7 : decode cX8_took 7 = .ok (.iadd, 1) := by decide +kernel
theorem dX8_took_8 : decode cX8_took 8 = .ok (.iaload, 1) := by decide +kernel
theorem dX8_took_9 : decode cX8_took 9 = .ok (.ireturn, 1) := by decide +kernel
theorem dX8_lives_0 : decode cX8_lives 0 = .ok (.aload_n 0, 1) := by decide +kernel
theorem dX8_lives_1 : decode cX8_lives 1 = .ok (.getfield 11, 3) := by decide +kernel
theorem dX8_lives_4 : decode cX8_lives 4 = .ok (.iconst 1, 1) := by decide +kernel
theorem dX8_lives_5 : decode cX8_lives 5 = .ok (.iaload, 1) := by decide +kernel
theorem dX8_lives_6 : decode cX8_lives 6 = .ok (.iload_n 1, 1) := by decide +kernel
theorem dX8_lives_7 : decode cX8_lives 7 = .ok (.ishr, 1) := by decide +kernel
theorem dX8_lives_8 : decode cX8_lives 8 = .ok (.iconst 1, 1) := by decide +kernel
theorem dX8_lives_9 : decode cX8_lives 9 = .ok (.iand, 1) := by decide +kernel
theorem dX8_lives_10 : decode cX8_lives 10 = .ok (.iconst 1, 1) := by decide +kernel
theorem dX8_lives_11 : decode cX8_lives 11 = .ok (.if_icmp .ne 7, 3) := by decide +kernel
theorem dX8_lives_14 : decode cX8_lives 14 = .ok (.iconst 1, 1) := by decide +kernel
theorem dX8_lives_15 : decode cX8_lives 15 = .ok (.goto 4, 3) := by decide +kernel
theorem dX8_lives_18 : decode cX8_lives 18 = .ok (.iconst 0, 1) := by decide +kernel
theorem dX8_lives_19 : decode cX8_lives 19 = .ok (.ireturn, 1) := by decide +kernel
theorem dX8_putInto_0 : decode cX8_putInto 0 = .ok (.aload_n 0, 1) := by decide +kernel
theorem dX8_putInto_1 : decode cX8_putInto 1 = .ok (.getfield 11, 3) := by decide +kernel
theorem dX8_putInto_4 : decode cX8_putInto 4 = .ok (.iconst 5, 1) := by decide +kernel
theorem dX8_putInto_5 : decode cX8_putInto 5 = .ok (.iload_n 1, 1) := by decide +kernel
theorem dX8_putInto_6 : decode cX8_putInto 6 = .ok (.iadd, 1) := by decide +kernel
theorem dX8_putInto_7 : decode cX8_putInto 7 = .ok (.iload_n 2, 1) := by decide +kernel
theorem dX8_putInto_8 : decode cX8_putInto 8 = .ok (.iastore, 1) := by decide +kernel
theorem dX8_putInto_9 : decode cX8_putInto 9 = .ok (.return_, 1) := by decide +kernel
theorem dX8_leaveOut_0 : decode cX8_leaveOut 0 = .ok (.aload_n 0, 1) := by decide +kernel
theorem dX8_leaveOut_1 : decode cX8_leaveOut 1 = .ok (.getfield 11, 3) := by decide +kernel
theorem dX8_leaveOut_4 : decode cX8_leaveOut 4 = .ok (.iconst 1, 1) := by decide +kernel
theorem dX8_leaveOut_5 : decode cX8_leaveOut 5 = .ok (.dup2, 1) := by decide +kernel
theorem dX8_leaveOut_6 : decode cX8_leaveOut 6 = .ok (.iaload, 1) := by decide +kernel
theorem dX8_leaveOut_7 : decode cX8_leaveOut 7 = .ok (.iconst 1, 1) := by decide +kernel
theorem dX8_leaveOut_8 : decode cX8_leaveOut 8 = .ok (.iload_n 1, 1) := by decide +kernel
theorem dX8_leaveOut_9 : decode cX8_leaveOut 9 = .ok (.ishl, 1) := by decide +kernel
theorem dX8_leaveOut_10 : decode cX8_leaveOut 10 = .ok (.iconst (-1), 1) := by decide +kernel
theorem dX8_leaveOut_11 : decode cX8_leaveOut 11 = .ok (.ixor, 1) := by decide +kernel
theorem dX8_leaveOut_12 : decode cX8_leaveOut 12 = .ok (.iand, 1) := by decide +kernel
theorem dX8_leaveOut_13 : decode cX8_leaveOut 13 = .ok (.iastore, 1) := by decide +kernel
theorem dX8_leaveOut_14 : decode cX8_leaveOut 14 = .ok (.return_, 1) := by decide +kernel
theorem dX8_livingIn_0 : decode cX8_livingIn 0 = .ok (.iconst 0, 1) := by decide +kernel
theorem dX8_livingIn_1 : decode cX8_livingIn 1 = .ok (.istore_n 2, 1) := by decide +kernel
theorem dX8_livingIn_2 : decode cX8_livingIn 2 = .ok (.iconst 0, 1) := by decide +kernel
theorem dX8_livingIn_3 : decode cX8_livingIn 3 = .ok (.istore_n 3, 1) := by decide +kernel
theorem dX8_livingIn_4 : decode cX8_livingIn 4 = .ok (.iload_n 3, 1) := by decide +kernel
theorem dX8_livingIn_5 : decode cX8_livingIn 5 = .ok (.aload_n 0, 1) := by decide +kernel
theorem dX8_livingIn_6 : decode cX8_livingIn 6 = .ok (.getfield 18, 3) := by decide +kernel
theorem dX8_livingIn_9 : decode cX8_livingIn 9 = .ok (.getfield 32, 3) := by decide +kernel
theorem dX8_livingIn_12 : decode cX8_livingIn 12 = .ok (.if_icmp .ge 32, 3) := by decide +kernel
theorem dX8_livingIn_15 : decode cX8_livingIn 15 = .ok (.aload_n 0, 1) := by decide +kernel
theorem dX8_livingIn_16 : decode cX8_livingIn 16 = .ok (.iload_n 3, 1) := by decide +kernel
theorem dX8_livingIn_17 : decode cX8_livingIn 17 = .ok (.invokevirtual 50, 3) := by decide +kernel
theorem dX8_livingIn_20 : decode cX8_livingIn 20 = .ok (.ifCond .eq 18, 3) := by decide +kernel
theorem dX8_livingIn_23 : decode cX8_livingIn 23 = .ok (.aload_n 0, 1) := by decide +kernel
theorem dX8_livingIn_24 : decode cX8_livingIn 24 = .ok (.iload_n 3, 1) := by decide +kernel
theorem dX8_livingIn_25 : decode cX8_livingIn 25 = .ok (.invokevirtual 54, 3) := by decide +kernel
theorem dX8_livingIn_28 : decode cX8_livingIn 28 = .ok (.iload_n 1, 1) := by decide +kernel
theorem dX8_livingIn_29 : decode cX8_livingIn 29 = .ok (.if_icmp .ne 9, 3) := by decide +kernel
theorem dX8_livingIn_32 : decode cX8_livingIn 32 = .ok (.iload_n 2, 1) := by decide +kernel
theorem dX8_livingIn_33 : decode cX8_livingIn 33 = .ok (.iconst 1, 1) := by decide +kernel
theorem dX8_livingIn_34 : decode cX8_livingIn 34 = .ok (.iload_n 3, 1) := by decide +kernel
theorem dX8_livingIn_35 : decode cX8_livingIn 35 = .ok (.ishl, 1) := by decide +kernel
theorem dX8_livingIn_36 : decode cX8_livingIn 36 = .ok (.ior, 1) := by decide +kernel
theorem dX8_livingIn_37 : decode cX8_livingIn 37 = .ok (.istore_n 2, 1) := by decide +kernel
theorem dX8_livingIn_38 : decode cX8_livingIn 38 = .ok (.iinc 3 1, 3) := by decide +kernel
theorem dX8_livingIn_41 : decode cX8_livingIn 41 = .ok (.goto (-37), 3) := by decide +kernel
theorem dX8_livingIn_44 : decode cX8_livingIn 44 = .ok (.iload_n 2, 1) := by decide +kernel
theorem dX8_livingIn_45 : decode cX8_livingIn 45 = .ok (.ireturn, 1) := by decide +kernel
theorem dX8_catsIn_0 : decode cX8_catsIn 0 = .ok (.iconst 0, 1) := by decide +kernel
theorem dX8_catsIn_1 : decode cX8_catsIn 1 = .ok (.istore_n 2, 1) := by decide +kernel
theorem dX8_catsIn_2 : decode cX8_catsIn 2 = .ok (.iconst 0, 1) := by decide +kernel
theorem dX8_catsIn_3 : decode cX8_catsIn 3 = .ok (.istore_n 3, 1) := by decide +kernel
theorem dX8_catsIn_4 : decode cX8_catsIn 4 = .ok (.iload_n 3, 1) := by decide +kernel
theorem dX8_catsIn_5 : decode cX8_catsIn 5 = .ok (.aload_n 0, 1) := by decide +kernel
theorem dX8_catsIn_6 : decode cX8_catsIn 6 = .ok (.getfield 18, 3) := by decide +kernel
theorem dX8_catsIn_9 : decode cX8_catsIn 9 = .ok (.getfield 44, 3) := by decide +kernel
theorem dX8_catsIn_12 : decode cX8_catsIn 12 = .ok (.if_icmp .ge 24, 3) := by decide +kernel
theorem dX8_catsIn_15 : decode cX8_catsIn 15 = .ok (.aload_n 0, 1) := by decide +kernel
theorem dX8_catsIn_16 : decode cX8_catsIn 16 = .ok (.iload_n 3, 1) := by decide +kernel
theorem dX8_catsIn_17 : decode cX8_catsIn 17 = .ok (.invokevirtual 58, 3) := by decide +kernel
theorem dX8_catsIn_20 : decode cX8_catsIn 20 = .ok (.iload_n 1, 1) := by decide +kernel
theorem dX8_catsIn_21 : decode cX8_catsIn 21 = .ok (.if_icmp .ne 9, 3) := by decide +kernel
theorem dX8_catsIn_24 : decode cX8_catsIn 24 = .ok (.iload_n 2, 1) := by decide +kernel
theorem dX8_catsIn_25 : decode cX8_catsIn 25 = .ok (.iconst 1, 1) := by decide +kernel
theorem dX8_catsIn_26 : decode cX8_catsIn 26 = .ok (.iload_n 3, 1) := by decide +kernel
theorem dX8_catsIn_27 : decode cX8_catsIn 27 = .ok (.ishl, 1) := by decide +kernel
theorem dX8_catsIn_28 : decode cX8_catsIn 28 = .ok (.ior, 1) := by decide +kernel
theorem dX8_catsIn_29 : decode cX8_catsIn 29 = .ok (.istore_n 2, 1) := by decide +kernel
theorem dX8_catsIn_30 : decode cX8_catsIn 30 = .ok (.iinc 3 1, 3) := by decide +kernel
theorem dX8_catsIn_33 : decode cX8_catsIn 33 = .ok (.goto (-29), 3) := by decide +kernel
theorem dX8_catsIn_36 : decode cX8_catsIn 36 = .ok (.iload_n 2, 1) := by decide +kernel
theorem dX8_catsIn_37 : decode cX8_catsIn 37 = .ok (.ireturn, 1) := by decide +kernel
theorem dX8_sizeOf_0 : decode cX8_sizeOf 0 = .ok (.iconst 0, 1) := by decide +kernel
theorem dX8_sizeOf_1 : decode cX8_sizeOf 1 = .ok (.istore_n 2, 1) := by decide +kernel
theorem dX8_sizeOf_2 : decode cX8_sizeOf 2 = .ok (.iconst 0, 1) := by decide +kernel
theorem dX8_sizeOf_3 : decode cX8_sizeOf 3 = .ok (.istore_n 3, 1) := by decide +kernel
theorem dX8_sizeOf_4 : decode cX8_sizeOf 4 = .ok (.iload_n 3, 1) := by decide +kernel
theorem dX8_sizeOf_5 : decode cX8_sizeOf 5 = .ok (.aload_n 0, 1) := by decide +kernel
theorem dX8_sizeOf_6 : decode cX8_sizeOf 6 = .ok (.getfield 18, 3) := by decide +kernel
theorem dX8_sizeOf_9 : decode cX8_sizeOf 9 = .ok (.getfield 32, 3) := by decide +kernel
theorem dX8_sizeOf_12 : decode cX8_sizeOf 12 = .ok (.if_icmp .ge 26, 3) := by decide +kernel
theorem dX8_sizeOf_15 : decode cX8_sizeOf 15 = .ok (.iload_n 1, 1) := by decide +kernel
theorem dX8_sizeOf_16 : decode cX8_sizeOf 16 = .ok (.iload_n 3, 1) := by decide +kernel
theorem dX8_sizeOf_17 : decode cX8_sizeOf 17 = .ok (.ishr, 1) := by decide +kernel
theorem dX8_sizeOf_18 : decode cX8_sizeOf 18 = .ok (.iconst 1, 1) := by decide +kernel
theorem dX8_sizeOf_19 : decode cX8_sizeOf 19 = .ok (.iand, 1) := by decide +kernel
theorem dX8_sizeOf_20 : decode cX8_sizeOf 20 = .ok (.iconst 1, 1) := by decide +kernel
theorem dX8_sizeOf_21 : decode cX8_sizeOf 21 = .ok (.if_icmp .ne 11, 3) := by decide +kernel
theorem dX8_sizeOf_24 : decode cX8_sizeOf 24 = .ok (.iload_n 2, 1) := by decide +kernel
theorem dX8_sizeOf_25 : decode cX8_sizeOf 25 = .ok (.aload_n 0, 1) := by decide +kernel
theorem dX8_sizeOf_26 : decode cX8_sizeOf 26 = .ok (.iload_n 3, 1) := by decide +kernel
theorem dX8_sizeOf_27 : decode cX8_sizeOf 27 = .ok (.invokevirtual 61, 3) := by decide +kernel
theorem dX8_sizeOf_30 : decode cX8_sizeOf 30 = .ok (.iadd, 1) := by decide +kernel
theorem dX8_sizeOf_31 : decode cX8_sizeOf 31 = .ok (.istore_n 2, 1) := by decide +kernel
theorem dX8_sizeOf_32 : decode cX8_sizeOf 32 = .ok (.iinc 3 1, 3) := by decide +kernel
theorem dX8_sizeOf_35 : decode cX8_sizeOf 35 = .ok (.goto (-31), 3) := by decide +kernel
theorem dX8_sizeOf_38 : decode cX8_sizeOf 38 = .ok (.iload_n 2, 1) := by decide +kernel
theorem dX8_sizeOf_39 : decode cX8_sizeOf 39 = .ok (.ireturn, 1) := by decide +kernel
theorem dX8_greatestOf_0 : decode cX8_greatestOf 0 = .ok (.iconst (-1), 1) := by decide +kernel
theorem dX8_greatestOf_1 : decode cX8_greatestOf 1 = .ok (.istore_n 2, 1) := by decide +kernel
theorem dX8_greatestOf_2 : decode cX8_greatestOf 2 = .ok (.iconst 0, 1) := by decide +kernel
theorem dX8_greatestOf_3 : decode cX8_greatestOf 3 = .ok (.istore_n 3, 1) := by decide +kernel
theorem dX8_greatestOf_4 : decode cX8_greatestOf 4 = .ok (.iload_n 3, 1) := by decide +kernel
theorem dX8_greatestOf_5 : decode cX8_greatestOf 5 = .ok (.aload_n 0, 1) := by decide +kernel
theorem dX8_greatestOf_6 : decode cX8_greatestOf 6 = .ok (.getfield 18, 3) := by decide +kernel
theorem dX8_greatestOf_9 : decode cX8_greatestOf 9 = .ok (.getfield 32, 3) := by decide +kernel
theorem dX8_greatestOf_12 : decode cX8_greatestOf 12 = .ok (.if_icmp .ge 38, 3) := by decide +kernel
theorem dX8_greatestOf_15 : decode cX8_greatestOf 15 = .ok (.iload_n 1, 1) := by decide +kernel
theorem dX8_greatestOf_16 : decode cX8_greatestOf 16 = .ok (.iload_n 3, 1) := by decide +kernel
theorem dX8_greatestOf_17 : decode cX8_greatestOf 17 = .ok (.ishr, 1) := by decide +kernel
theorem dX8_greatestOf_18 : decode cX8_greatestOf 18 = .ok (.iconst 1, 1) := by decide +kernel
theorem dX8_greatestOf_19 : decode cX8_greatestOf 19 = .ok (.iand, 1) := by decide +kernel
theorem dX8_greatestOf_20 : decode cX8_greatestOf 20 = .ok (.iconst 1, 1) := by decide +kernel
theorem dX8_greatestOf_21 : decode cX8_greatestOf 21 = .ok (.if_icmp .ne 23, 3) := by decide +kernel
theorem dX8_greatestOf_24 : decode cX8_greatestOf 24 = .ok (.iload_n 2, 1) := by decide +kernel
theorem dX8_greatestOf_25 : decode cX8_greatestOf 25 = .ok (.iconst (-1), 1) := by decide +kernel
theorem dX8_greatestOf_26 : decode cX8_greatestOf 26 = .ok (.if_icmp .eq 16, 3) := by decide +kernel
theorem dX8_greatestOf_29 : decode cX8_greatestOf 29 = .ok (.aload_n 0, 1) := by decide +kernel
theorem dX8_greatestOf_30 : decode cX8_greatestOf 30 = .ok (.iload_n 3, 1) := by decide +kernel
theorem dX8_greatestOf_31 : decode cX8_greatestOf 31 = .ok (.invokevirtual 61, 3) := by decide +kernel
theorem dX8_greatestOf_34 : decode cX8_greatestOf 34 = .ok (.aload_n 0, 1) := by decide +kernel
theorem dX8_greatestOf_35 : decode cX8_greatestOf 35 = .ok (.iload_n 2, 1) := by decide +kernel
theorem dX8_greatestOf_36 : decode cX8_greatestOf 36 = .ok (.invokevirtual 61, 3) := by decide +kernel
theorem dX8_greatestOf_39 : decode cX8_greatestOf 39 = .ok (.if_icmp .le 5, 3) := by decide +kernel
theorem dX8_greatestOf_42 : decode cX8_greatestOf 42 = .ok (.iload_n 3, 1) := by decide +kernel
theorem dX8_greatestOf_43 : decode cX8_greatestOf 43 = .ok (.istore_n 2, 1) := by decide +kernel
theorem dX8_greatestOf_44 : decode cX8_greatestOf 44 = .ok (.iinc 3 1, 3) := by decide +kernel
theorem dX8_greatestOf_47 : decode cX8_greatestOf 47 = .ok (.goto (-43), 3) := by decide +kernel
theorem dX8_greatestOf_50 : decode cX8_greatestOf 50 = .ok (.iload_n 2, 1) := by decide +kernel
theorem dX8_greatestOf_51 : decode cX8_greatestOf 51 = .ok (.ireturn, 1) := by decide +kernel
theorem dX8_catThatTookMost_0 : decode cX8_catThatTookMost 0 = .ok (.iconst (-1), 1) := by decide +kernel
theorem dX8_catThatTookMost_1 : decode cX8_catThatTookMost 1 = .ok (.istore_n 1, 1) := by decide +kernel
theorem dX8_catThatTookMost_2 : decode cX8_catThatTookMost 2 = .ok (.iconst 0, 1) := by decide +kernel
theorem dX8_catThatTookMost_3 : decode cX8_catThatTookMost 3 = .ok (.istore_n 2, 1) := by decide +kernel
theorem dX8_catThatTookMost_4 : decode cX8_catThatTookMost 4 = .ok (.iconst 0, 1) := by decide +kernel
theorem dX8_catThatTookMost_5 : decode cX8_catThatTookMost 5 = .ok (.istore_n 3, 1) := by decide +kernel
theorem dX8_catThatTookMost_6 : decode cX8_catThatTookMost 6 = .ok (.iload_n 3, 1) := by decide +kernel
theorem dX8_catThatTookMost_7 : decode cX8_catThatTookMost 7 = .ok (.aload_n 0, 1) := by decide +kernel
theorem dX8_catThatTookMost_8 : decode cX8_catThatTookMost 8 = .ok (.getfield 18, 3) := by decide +kernel
theorem dX8_catThatTookMost_11 : decode cX8_catThatTookMost 11 = .ok (.getfield 44, 3) := by decide +kernel
theorem dX8_catThatTookMost_14 : decode cX8_catThatTookMost 14 = .ok (.if_icmp .ge 26, 3) := by decide +kernel
theorem dX8_catThatTookMost_17 : decode cX8_catThatTookMost 17 = .ok (.aload_n 0, 1) := by decide +kernel
theorem dX8_catThatTookMost_18 : decode cX8_catThatTookMost 18 = .ok (.iload_n 3, 1) := by decide +kernel
theorem dX8_catThatTookMost_19 : decode cX8_catThatTookMost 19 = .ok (.invokevirtual 64, 3) := by decide +kernel
theorem dX8_catThatTookMost_22 : decode cX8_catThatTookMost 22 = .ok (.iload_n 2, 1) := by decide +kernel
theorem dX8_catThatTookMost_23 : decode cX8_catThatTookMost 23 = .ok (.if_icmp .le 11, 3) := by decide +kernel
theorem dX8_catThatTookMost_26 : decode cX8_catThatTookMost 26 = .ok (.aload_n 0, 1) := by decide +kernel
theorem dX8_catThatTookMost_27 : decode cX8_catThatTookMost 27 = .ok (.iload_n 3, 1) := by decide +kernel
theorem dX8_catThatTookMost_28 : decode cX8_catThatTookMost 28 = .ok (.invokevirtual 64, 3) := by decide +kernel
theorem dX8_catThatTookMost_31 : decode cX8_catThatTookMost 31 = .ok (.istore_n 2, 1) := by decide +kernel
theorem dX8_catThatTookMost_32 : decode cX8_catThatTookMost 32 = .ok (.iload_n 3, 1) := by decide +kernel
theorem dX8_catThatTookMost_33 : decode cX8_catThatTookMost 33 = .ok (.istore_n 1, 1) := by decide +kernel
theorem dX8_catThatTookMost_34 : decode cX8_catThatTookMost 34 = .ok (.iinc 3 1, 3) := by decide +kernel
theorem dX8_catThatTookMost_37 : decode cX8_catThatTookMost 37 = .ok (.goto (-31), 3) := by decide +kernel
theorem dX8_catThatTookMost_40 : decode cX8_catThatTookMost 40 = .ok (.iload_n 1, 1) := by decide +kernel
theorem dX8_catThatTookMost_41 : decode cX8_catThatTookMost 41 = .ok (.ireturn, 1) := by decide +kernel
theorem dX8_wouldSee_0 : decode cX8_wouldSee 0 = .ok (.iload_n 2, 1) := by decide +kernel
theorem dX8_wouldSee_1 : decode cX8_wouldSee 1 = .ok (.aload_n 0, 1) := by decide +kernel
theorem dX8_wouldSee_2 : decode cX8_wouldSee 2 = .ok (.getfield 18, 3) := by decide +kernel
theorem dX8_wouldSee_5 : decode cX8_wouldSee 5 = .ok (.getfield 67, 3) := by decide +kernel
theorem dX8_wouldSee_8 : decode cX8_wouldSee 8 = .ok (.iload_n 1, 1) := by decide +kernel
theorem dX8_wouldSee_9 : decode cX8_wouldSee 9 = .ok (.iaload, 1) := by decide +kernel
theorem dX8_wouldSee_10 : decode cX8_wouldSee 10 = .ok (.iadd, 1) := by decide +kernel
theorem dX8_wouldSee_11 : decode cX8_wouldSee 11 = .ok (.aload_n 0, 1) := by decide +kernel
theorem dX8_wouldSee_12 : decode cX8_wouldSee 12 = .ok (.getfield 18, 3) := by decide +kernel
theorem dX8_wouldSee_15 : decode cX8_wouldSee 15 = .ok (.getfield 70, 3) := by decide +kernel
theorem dX8_wouldSee_18 : decode cX8_wouldSee 18 = .ok (.iload_n 3, 1) := by decide +kernel
theorem dX8_wouldSee_19 : decode cX8_wouldSee 19 = .ok (.iaload, 1) := by decide +kernel
theorem dX8_wouldSee_20 : decode cX8_wouldSee 20 = .ok (.if_icmp .le 7, 3) := by decide +kernel
theorem dX8_wouldSee_23 : decode cX8_wouldSee 23 = .ok (.iconst 1, 1) := by decide +kernel
theorem dX8_wouldSee_24 : decode cX8_wouldSee 24 = .ok (.goto 4, 3) := by decide +kernel
theorem dX8_wouldSee_27 : decode cX8_wouldSee 27 = .ok (.iconst 0, 1) := by decide +kernel
theorem dX8_wouldSee_28 : decode cX8_wouldSee 28 = .ok (.ireturn, 1) := by decide +kernel
theorem dX8_seenBy_0 : decode cX8_seenBy 0 = .ok (.iconst 0, 1) := by decide +kernel
theorem dX8_seenBy_1 : decode cX8_seenBy 1 = .ok (.istore_n 2, 1) := by decide +kernel
theorem dX8_seenBy_2 : decode cX8_seenBy 2 = .ok (.aload_n 0, 1) := by decide +kernel
theorem dX8_seenBy_3 : decode cX8_seenBy 3 = .ok (.iload_n 1, 1) := by decide +kernel
theorem dX8_seenBy_4 : decode cX8_seenBy 4 = .ok (.invokevirtual 58, 3) := by decide +kernel
theorem dX8_seenBy_7 : decode cX8_seenBy 7 = .ok (.istore_n 3, 1) := by decide +kernel
theorem dX8_seenBy_8 : decode cX8_seenBy 8 = .ok (.iconst 0, 1) := by decide +kernel
theorem dX8_seenBy_9 : decode cX8_seenBy 9 = .ok (.istore 4, 2) := by decide +kernel
theorem dX8_seenBy_11 : decode cX8_seenBy 11 = .ok (.iload 4, 2) := by decide +kernel
theorem dX8_seenBy_13 : decode cX8_seenBy 13 = .ok (.aload_n 0, 1) := by decide +kernel
theorem dX8_seenBy_14 : decode cX8_seenBy 14 = .ok (.getfield 18, 3) := by decide +kernel
theorem dX8_seenBy_17 : decode cX8_seenBy 17 = .ok (.getfield 32, 3) := by decide +kernel
theorem dX8_seenBy_20 : decode cX8_seenBy 20 = .ok (.if_icmp .ge 50, 3) := by decide +kernel
theorem dX8_seenBy_23 : decode cX8_seenBy 23 = .ok (.aload_n 0, 1) := by decide +kernel
theorem dX8_seenBy_24 : decode cX8_seenBy 24 = .ok (.iload 4, 2) := by decide +kernel
theorem dX8_seenBy_26 : decode cX8_seenBy 26 = .ok (.invokevirtual 50, 3) := by decide +kernel
theorem dX8_seenBy_29 : decode cX8_seenBy 29 = .ok (.ifCond .eq 35, 3) := by decide +kernel
theorem dX8_seenBy_32 : decode cX8_seenBy 32 = .ok (.aload_n 0, 1) := by decide +kernel
theorem dX8_seenBy_33 : decode cX8_seenBy 33 = .ok (.iload 4, 2) := by decide +kernel
theorem dX8_seenBy_35 : decode cX8_seenBy 35 = .ok (.invokevirtual 54, 3) := by decide +kernel
theorem dX8_seenBy_38 : decode cX8_seenBy 38 = .ok (.iload_n 3, 1) := by decide +kernel
theorem dX8_seenBy_39 : decode cX8_seenBy 39 = .ok (.if_icmp .ne 25, 3) := by decide +kernel
theorem dX8_seenBy_42 : decode cX8_seenBy 42 = .ok (.aload_n 0, 1) := by decide +kernel
theorem dX8_seenBy_43 : decode cX8_seenBy 43 = .ok (.iload_n 1, 1) := by decide +kernel
theorem dX8_seenBy_44 : decode cX8_seenBy 44 = .ok (.aload_n 0, 1) := by decide +kernel
theorem dX8_seenBy_45 : decode cX8_seenBy 45 = .ok (.iload 4, 2) := by decide +kernel
theorem dX8_seenBy_47 : decode cX8_seenBy 47 = .ok (.invokevirtual 61, 3) := by decide +kernel
theorem dX8_seenBy_50 : decode cX8_seenBy 50 = .ok (.iload_n 3, 1) := by decide +kernel
theorem dX8_seenBy_51 : decode cX8_seenBy 51 = .ok (.invokevirtual 73, 3) := by decide +kernel
theorem dX8_seenBy_54 : decode cX8_seenBy 54 = .ok (.ifCond .eq 10, 3) := by decide +kernel
theorem dX8_seenBy_57 : decode cX8_seenBy 57 = .ok (.iload_n 2, 1) := by decide +kernel
theorem dX8_seenBy_58 : decode cX8_seenBy 58 = .ok (.iconst 1, 1) := by decide +kernel
theorem dX8_seenBy_59 : decode cX8_seenBy 59 = .ok (.iload 4, 2) := by decide +kernel
theorem dX8_seenBy_61 : decode cX8_seenBy 61 = .ok (.ishl, 1) := by decide +kernel
theorem dX8_seenBy_62 : decode cX8_seenBy 62 = .ok (.ior, 1) := by decide +kernel
theorem dX8_seenBy_63 : decode cX8_seenBy 63 = .ok (.istore_n 2, 1) := by decide +kernel
theorem dX8_seenBy_64 : decode cX8_seenBy 64 = .ok (.iinc 4 1, 3) := by decide +kernel
theorem dX8_seenBy_67 : decode cX8_seenBy 67 = .ok (.goto (-56), 3) := by decide +kernel
theorem dX8_seenBy_70 : decode cX8_seenBy 70 = .ok (.iload_n 2, 1) := by decide +kernel
theorem dX8_seenBy_71 : decode cX8_seenBy 71 = .ok (.ireturn, 1) := by decide +kernel
theorem dX8_hiddenRooms_0 : decode cX8_hiddenRooms 0 = .ok (.iconst 1, 1) := by decide +kernel
theorem dX8_hiddenRooms_1 : decode cX8_hiddenRooms 1 = .ok (.aload_n 0, 1) := by decide +kernel
theorem dX8_hiddenRooms_2 : decode cX8_hiddenRooms 2 = .ok (.getfield 18, 3) := by decide +kernel
theorem dX8_hiddenRooms_5 : decode cX8_hiddenRooms 5 = .ok (.getfield 77, 3) := by decide +kernel
theorem dX8_hiddenRooms_8 : decode cX8_hiddenRooms 8 = .ok (.ishl, 1) := by decide +kernel
theorem dX8_hiddenRooms_9 : decode cX8_hiddenRooms 9 = .ok (.iconst 1, 1) := by decide +kernel
theorem dX8_hiddenRooms_10 : decode cX8_hiddenRooms 10 = .ok (.isub, 1) := by decide +kernel
theorem dX8_hiddenRooms_11 : decode cX8_hiddenRooms 11 = .ok (.istore_n 2, 1) := by decide +kernel
theorem dX8_hiddenRooms_12 : decode cX8_hiddenRooms 12 = .ok (.iconst 0, 1) := by decide +kernel
theorem dX8_hiddenRooms_13 : decode cX8_hiddenRooms 13 = .ok (.istore_n 3, 1) := by decide +kernel
theorem dX8_hiddenRooms_14 : decode cX8_hiddenRooms 14 = .ok (.iload_n 3, 1) := by decide +kernel
theorem dX8_hiddenRooms_15 : decode cX8_hiddenRooms 15 = .ok (.aload_n 0, 1) := by decide +kernel
theorem dX8_hiddenRooms_16 : decode cX8_hiddenRooms 16 = .ok (.getfield 18, 3) := by decide +kernel
theorem dX8_hiddenRooms_19 : decode cX8_hiddenRooms 19 = .ok (.getfield 44, 3) := by decide +kernel
theorem dX8_hiddenRooms_22 : decode cX8_hiddenRooms 22 = .ok (.if_icmp .ge 36, 3) := by decide +kernel
theorem dX8_hiddenRooms_25 : decode cX8_hiddenRooms 25 = .ok (.aload_n 0, 1) := by decide +kernel
theorem dX8_hiddenRooms_26 : decode cX8_hiddenRooms 26 = .ok (.iload_n 3, 1) := by decide +kernel
theorem dX8_hiddenRooms_27 : decode cX8_hiddenRooms 27 = .ok (.invokevirtual 58, 3) := by decide +kernel
theorem dX8_hiddenRooms_30 : decode cX8_hiddenRooms 30 = .ok (.istore 4, 2) := by decide +kernel
theorem dX8_hiddenRooms_32 : decode cX8_hiddenRooms 32 = .ok (.aload_n 0, 1) := by decide +kernel
theorem dX8_hiddenRooms_33 : decode cX8_hiddenRooms 33 = .ok (.iload_n 3, 1) := by decide +kernel
theorem dX8_hiddenRooms_34 : decode cX8_hiddenRooms 34 = .ok (.iload_n 1, 1) := by decide +kernel
theorem dX8_hiddenRooms_35 : decode cX8_hiddenRooms 35 = .ok (.iload 4, 2) := by decide +kernel
theorem dX8_hiddenRooms_37 : decode cX8_hiddenRooms 37 = .ok (.invokevirtual 73, 3) := by decide +kernel
theorem dX8_hiddenRooms_40 : decode cX8_hiddenRooms 40 = .ok (.ifCond .eq 12, 3) := by decide +kernel
theorem dX8_hiddenRooms_43 : decode cX8_hiddenRooms 43 = .ok (.iload_n 2, 1) := by decide +kernel
theorem dX8_hiddenRooms_44 : decode cX8_hiddenRooms 44 = .ok (.iconst 1, 1) := by decide +kernel
theorem dX8_hiddenRooms_45 : decode cX8_hiddenRooms 45 = .ok (.iload 4, 2) := by decide +kernel
theorem dX8_hiddenRooms_47 : decode cX8_hiddenRooms 47 = .ok (.ishl, 1) := by decide +kernel
theorem dX8_hiddenRooms_48 : decode cX8_hiddenRooms 48 = .ok (.iconst (-1), 1) := by decide +kernel
theorem dX8_hiddenRooms_49 : decode cX8_hiddenRooms 49 = .ok (.ixor, 1) := by decide +kernel
theorem dX8_hiddenRooms_50 : decode cX8_hiddenRooms 50 = .ok (.iand, 1) := by decide +kernel
theorem dX8_hiddenRooms_51 : decode cX8_hiddenRooms 51 = .ok (.istore_n 2, 1) := by decide +kernel
theorem dX8_hiddenRooms_52 : decode cX8_hiddenRooms 52 = .ok (.iinc 3 1, 3) := by decide +kernel
theorem dX8_hiddenRooms_55 : decode cX8_hiddenRooms 55 = .ok (.goto (-41), 3) := by decide +kernel
theorem dX8_hiddenRooms_58 : decode cX8_hiddenRooms 58 = .ok (.iload_n 2, 1) := by decide +kernel
theorem dX8_hiddenRooms_59 : decode cX8_hiddenRooms 59 = .ok (.ireturn, 1) := by decide +kernel
theorem dX8_besides_0 : decode cX8_besides 0 = .ok (.iconst 0, 1) := by decide +kernel
theorem dX8_besides_1 : decode cX8_besides 1 = .ok (.istore_n 2, 1) := by decide +kernel
theorem dX8_besides_2 : decode cX8_besides 2 = .ok (.iconst 0, 1) := by decide +kernel
theorem dX8_besides_3 : decode cX8_besides 3 = .ok (.istore_n 3, 1) := by decide +kernel
theorem dX8_besides_4 : decode cX8_besides 4 = .ok (.iload_n 3, 1) := by decide +kernel
theorem dX8_besides_5 : decode cX8_besides 5 = .ok (.aload_n 0, 1) := by decide +kernel
theorem dX8_besides_6 : decode cX8_besides 6 = .ok (.getfield 18, 3) := by decide +kernel
theorem dX8_besides_9 : decode cX8_besides 9 = .ok (.getfield 80, 3) := by decide +kernel
theorem dX8_besides_12 : decode cX8_besides 12 = .ok (.if_icmp .ge 79, 3) := by decide +kernel
theorem dX8_besides_15 : decode cX8_besides 15 = .ok (.aload_n 0, 1) := by decide +kernel
theorem dX8_besides_16 : decode cX8_besides 16 = .ok (.getfield 11, 3) := by decide +kernel
theorem dX8_besides_19 : decode cX8_besides 19 = .ok (.iconst 4, 1) := by decide +kernel
theorem dX8_besides_20 : decode cX8_besides 20 = .ok (.iaload, 1) := by decide +kernel
theorem dX8_besides_21 : decode cX8_besides 21 = .ok (.iload_n 3, 1) := by decide +kernel
theorem dX8_besides_22 : decode cX8_besides 22 = .ok (.ishr, 1) := by decide +kernel
theorem dX8_besides_23 : decode cX8_besides 23 = .ok (.iconst 1, 1) := by decide +kernel
theorem dX8_besides_24 : decode cX8_besides 24 = .ok (.iand, 1) := by decide +kernel
theorem dX8_besides_25 : decode cX8_besides 25 = .ok (.ifCond .ne 60, 3) := by decide +kernel
theorem dX8_besides_28 : decode cX8_besides 28 = .ok (.aload_n 0, 1) := by decide +kernel
theorem dX8_besides_29 : decode cX8_besides 29 = .ok (.getfield 18, 3) := by decide +kernel
theorem dX8_besides_32 : decode cX8_besides 32 = .ok (.getfield 83, 3) := by decide +kernel
theorem dX8_besides_35 : decode cX8_besides 35 = .ok (.iload_n 3, 1) := by decide +kernel
theorem dX8_besides_36 : decode cX8_besides 36 = .ok (.iaload, 1) := by decide +kernel
theorem dX8_besides_37 : decode cX8_besides 37 = .ok (.iload_n 1, 1) := by decide +kernel
theorem dX8_besides_38 : decode cX8_besides 38 = .ok (.if_icmp .ne 20, 3) := by decide +kernel
theorem dX8_besides_41 : decode cX8_besides 41 = .ok (.iload_n 2, 1) := by decide +kernel
theorem dX8_besides_42 : decode cX8_besides 42 = .ok (.iconst 1, 1) := by decide +kernel
theorem dX8_besides_43 : decode cX8_besides 43 = .ok (.aload_n 0, 1) := by decide +kernel
theorem dX8_besides_44 : decode cX8_besides 44 = .ok (.getfield 18, 3) := by decide +kernel
theorem dX8_besides_47 : decode cX8_besides 47 = .ok (.getfield 86, 3) := by decide +kernel
theorem dX8_besides_50 : decode cX8_besides 50 = .ok (.iload_n 3, 1) := by decide +kernel
theorem dX8_besides_51 : decode cX8_besides 51 = .ok (.iaload, 1) := by decide +kernel
theorem dX8_besides_52 : decode cX8_besides 52 = .ok (.ishl, 1) := by decide +kernel
theorem dX8_besides_53 : decode cX8_besides 53 = .ok (.ior, 1) := by decide +kernel
theorem dX8_besides_54 : decode cX8_besides 54 = .ok (.istore_n 2, 1) := by decide +kernel
theorem dX8_besides_55 : decode cX8_besides 55 = .ok (.goto 30, 3) := by decide +kernel
theorem dX8_besides_58 : decode cX8_besides 58 = .ok (.aload_n 0, 1) := by decide +kernel
theorem dX8_besides_59 : decode cX8_besides 59 = .ok (.getfield 18, 3) := by decide +kernel
theorem dX8_besides_62 : decode cX8_besides 62 = .ok (.getfield 86, 3) := by decide +kernel
theorem dX8_besides_65 : decode cX8_besides 65 = .ok (.iload_n 3, 1) := by decide +kernel
theorem dX8_besides_66 : decode cX8_besides 66 = .ok (.iaload, 1) := by decide +kernel
theorem dX8_besides_67 : decode cX8_besides 67 = .ok (.iload_n 1, 1) := by decide +kernel
theorem dX8_besides_68 : decode cX8_besides 68 = .ok (.if_icmp .ne 17, 3) := by decide +kernel
theorem dX8_besides_71 : decode cX8_besides 71 = .ok (.iload_n 2, 1) := by decide +kernel
theorem dX8_besides_72 : decode cX8_besides 72 = .ok (.iconst 1, 1) := by decide +kernel
theorem dX8_besides_73 : decode cX8_besides 73 = .ok (.aload_n 0, 1) := by decide +kernel
theorem dX8_besides_74 : decode cX8_besides 74 = .ok (.getfield 18, 3) := by decide +kernel
theorem dX8_besides_77 : decode cX8_besides 77 = .ok (.getfield 83, 3) := by decide +kernel
theorem dX8_besides_80 : decode cX8_besides 80 = .ok (.iload_n 3, 1) := by decide +kernel
theorem dX8_besides_81 : decode cX8_besides 81 = .ok (.iaload, 1) := by decide +kernel
theorem dX8_besides_82 : decode cX8_besides 82 = .ok (.ishl, 1) := by decide +kernel
theorem dX8_besides_83 : decode cX8_besides 83 = .ok (.ior, 1) := by decide +kernel
theorem dX8_besides_84 : decode cX8_besides 84 = .ok (.istore_n 2, 1) := by decide +kernel
theorem dX8_besides_85 : decode cX8_besides 85 = .ok (.iinc 3 1, 3) := by decide +kernel
theorem dX8_besides_88 : decode cX8_besides 88 = .ok (.goto (-84), 3) := by decide +kernel
theorem dX8_besides_91 : decode cX8_besides 91 = .ok (.iload_n 2, 1) := by decide +kernel
theorem dX8_besides_92 : decode cX8_besides 92 = .ok (.ireturn, 1) := by decide +kernel
theorem dX8_distance_0 : decode cX8_distance 0 = .ok (.iconst 1, 1) := by decide +kernel
theorem dX8_distance_1 : decode cX8_distance 1 = .ok (.iload_n 1, 1) := by decide +kernel
theorem dX8_distance_2 : decode cX8_distance 2 = .ok (.ishl, 1) := by decide +kernel
theorem dX8_distance_3 : decode cX8_distance 3 = .ok (.istore_n 3, 1) := by decide +kernel
theorem dX8_distance_4 : decode cX8_distance 4 = .ok (.iload_n 3, 1) := by decide +kernel
theorem dX8_distance_5 : decode cX8_distance 5 = .ok (.istore 4, 2) := by decide +kernel
theorem dX8_distance_7 : decode cX8_distance 7 = .ok (.iconst 0, 1) := by decide +kernel
theorem dX8_distance_8 : decode cX8_distance 8 = .ok (.istore 5, 2) := by decide +kernel
theorem dX8_distance_10 : decode cX8_distance 10 = .ok (.iload 5, 2) := by decide +kernel
theorem dX8_distance_12 : decode cX8_distance 12 = .ok (.bipush 8, 2) := by decide +kernel
theorem dX8_distance_14 : decode cX8_distance 14 = .ok (.if_icmp .ge 86, 3) := by decide +kernel
theorem dX8_distance_17 : decode cX8_distance 17 = .ok (.iload 4, 2) := by decide +kernel
theorem dX8_distance_19 : decode cX8_distance 19 = .ok (.ifCond .eq 81, 3) := by decide +kernel
theorem dX8_distance_22 : decode cX8_distance 22 = .ok (.iload 4, 2) := by decide +kernel
theorem dX8_distance_24 : decode cX8_distance 24 = .ok (.iload_n 2, 1) := by decide +kernel
theorem dX8_distance_25 : decode cX8_distance 25 = .ok (.ishr, 1) := by decide +kernel
theorem dX8_distance_26 : decode cX8_distance 26 = .ok (.iconst 1, 1) := by decide +kernel
theorem dX8_distance_27 : decode cX8_distance 27 = .ok (.iand, 1) := by decide +kernel
theorem dX8_distance_28 : decode cX8_distance 28 = .ok (.iconst 1, 1) := by decide +kernel
theorem dX8_distance_29 : decode cX8_distance 29 = .ok (.if_icmp .ne 6, 3) := by decide +kernel
theorem dX8_distance_32 : decode cX8_distance 32 = .ok (.iload 5, 2) := by decide +kernel
theorem dX8_distance_34 : decode cX8_distance 34 = .ok (.ireturn, 1) := by decide +kernel
theorem dX8_distance_35 : decode cX8_distance 35 = .ok (.iconst 0, 1) := by decide +kernel
theorem dX8_distance_36 : decode cX8_distance 36 = .ok (.istore 6, 2) := by decide +kernel
theorem dX8_distance_38 : decode cX8_distance 38 = .ok (.iconst 0, 1) := by decide +kernel
theorem dX8_distance_39 : decode cX8_distance 39 = .ok (.istore 7, 2) := by decide +kernel
theorem dX8_distance_41 : decode cX8_distance 41 = .ok (.iload 7, 2) := by decide +kernel
theorem dX8_distance_43 : decode cX8_distance 43 = .ok (.aload_n 0, 1) := by decide +kernel
theorem dX8_distance_44 : decode cX8_distance 44 = .ok (.getfield 18, 3) := by decide +kernel
theorem dX8_distance_47 : decode cX8_distance 47 = .ok (.getfield 77, 3) := by decide +kernel
theorem dX8_distance_50 : decode cX8_distance 50 = .ok (.if_icmp .ge 31, 3) := by decide +kernel
theorem dX8_distance_53 : decode cX8_distance 53 = .ok (.iload 4, 2) := by decide +kernel
theorem dX8_distance_55 : decode cX8_distance 55 = .ok (.iload 7, 2) := by decide +kernel
theorem dX8_distance_57 : decode cX8_distance 57 = .ok (.ishr, 1) := by decide +kernel
theorem dX8_distance_58 : decode cX8_distance 58 = .ok (.iconst 1, 1) := by decide +kernel
theorem dX8_distance_59 : decode cX8_distance 59 = .ok (.iand, 1) := by decide +kernel
theorem dX8_distance_60 : decode cX8_distance 60 = .ok (.iconst 1, 1) := by decide +kernel
theorem dX8_distance_61 : decode cX8_distance 61 = .ok (.if_icmp .ne 14, 3) := by decide +kernel
theorem dX8_distance_64 : decode cX8_distance 64 = .ok (.iload 6, 2) := by decide +kernel
theorem dX8_distance_66 : decode cX8_distance 66 = .ok (.aload_n 0, 1) := by decide +kernel
theorem dX8_distance_67 : decode cX8_distance 67 = .ok (.iload 7, 2) := by decide +kernel
theorem dX8_distance_69 : decode cX8_distance 69 = .ok (.invokevirtual 89, 3) := by decide +kernel
theorem dX8_distance_72 : decode cX8_distance 72 = .ok (.ior, 1) := by decide +kernel
theorem dX8_distance_73 : decode cX8_distance 73 = .ok (.istore 6, 2) := by decide +kernel
theorem dX8_distance_75 : decode cX8_distance 75 = .ok (.iinc 7 1, 3) := by decide +kernel
theorem dX8_distance_78 : decode cX8_distance 78 = .ok (.goto (-37), 3) := by decide +kernel
theorem dX8_distance_81 : decode cX8_distance 81 = .ok (.iload 6, 2) := by decide +kernel
theorem dX8_distance_83 : decode cX8_distance 83 = .ok (.iload_n 3, 1) := by decide +kernel
theorem dX8_distance_84 : decode cX8_distance 84 = .ok (.iconst (-1), 1) := by decide +kernel
theorem dX8_distance_85 : decode cX8_distance 85 = .ok (.ixor, 1) := by decide +kernel
theorem dX8_distance_86 : decode cX8_distance 86 = .ok (.iand, 1) := by decide +kernel
theorem dX8_distance_87 : decode cX8_distance 87 = .ok (.istore 4, 2) := by decide +kernel
theorem dX8_distance_89 : decode cX8_distance 89 = .ok (.iload_n 3, 1) := by decide +kernel
theorem dX8_distance_90 : decode cX8_distance 90 = .ok (.iload 6, 2) := by decide +kernel
theorem dX8_distance_92 : decode cX8_distance 92 = .ok (.ior, 1) := by decide +kernel
theorem dX8_distance_93 : decode cX8_distance 93 = .ok (.istore_n 3, 1) := by decide +kernel
theorem dX8_distance_94 : decode cX8_distance 94 = .ok (.iinc 5 1, 3) := by decide +kernel
theorem dX8_distance_97 : decode cX8_distance 97 = .ok (.goto (-87), 3) := by decide +kernel
theorem dX8_distance_100 : decode cX8_distance 100 = .ok (.iconst (-1), 1) := by decide +kernel
theorem dX8_distance_101 : decode cX8_distance 101 = .ok (.ireturn, 1) := by decide +kernel
theorem dX8_growthOf_0 : decode cX8_growthOf 0 = .ok (.aload_n 0, 1) := by decide +kernel
theorem dX8_growthOf_1 : decode cX8_growthOf 1 = .ok (.iload_n 1, 1) := by decide +kernel
theorem dX8_growthOf_2 : decode cX8_growthOf 2 = .ok (.invokevirtual 54, 3) := by decide +kernel
theorem dX8_growthOf_5 : decode cX8_growthOf 5 = .ok (.istore_n 2, 1) := by decide +kernel
theorem dX8_growthOf_6 : decode cX8_growthOf 6 = .ok (.aload_n 0, 1) := by decide +kernel
theorem dX8_growthOf_7 : decode cX8_growthOf 7 = .ok (.getfield 22, 3) := by decide +kernel
theorem dX8_growthOf_10 : decode cX8_growthOf 10 = .ok (.aload_n 0, 1) := by decide +kernel
theorem dX8_growthOf_11 : decode cX8_growthOf 11 = .ok (.iload_n 1, 1) := by decide +kernel
theorem dX8_growthOf_12 : decode cX8_growthOf 12 = .ok (.invokevirtual 61, 3) := by decide +kernel
theorem dX8_growthOf_15 : decode cX8_growthOf 15 = .ok (.aload_n 0, 1) := by decide +kernel
theorem dX8_growthOf_16 : decode cX8_growthOf 16 = .ok (.getfield 18, 3) := by decide +kernel
theorem dX8_growthOf_19 : decode cX8_growthOf 19 = .ok (.getfield 92, 3) := by decide +kernel
theorem dX8_growthOf_22 : decode cX8_growthOf 22 = .ok (.iload_n 1, 1) := by decide +kernel
theorem dX8_growthOf_23 : decode cX8_growthOf 23 = .ok (.iaload, 1) := by decide +kernel
theorem dX8_growthOf_24 : decode cX8_growthOf 24 = .ok (.aload_n 0, 1) := by decide +kernel
theorem dX8_growthOf_25 : decode cX8_growthOf 25 = .ok (.getfield 18, 3) := by decide +kernel
theorem dX8_growthOf_28 : decode cX8_growthOf 28 = .ok (.getfield 70, 3) := by decide +kernel
theorem dX8_growthOf_31 : decode cX8_growthOf 31 = .ok (.iload_n 2, 1) := by decide +kernel
theorem dX8_growthOf_32 : decode cX8_growthOf 32 = .ok (.iaload, 1) := by decide +kernel
theorem dX8_growthOf_33 : decode cX8_growthOf 33 = .ok (.aload_n 0, 1) := by decide +kernel
theorem dX8_growthOf_34 : decode cX8_growthOf 34 = .ok (.iload_n 2, 1) := by decide +kernel
theorem dX8_growthOf_35 : decode cX8_growthOf 35 = .ok (.invokevirtual 95, 3) := by decide +kernel
theorem dX8_growthOf_38 : decode cX8_growthOf 38 = .ok (.invokestatic 98, 3) := by decide +kernel
theorem dX8_growthOf_41 : decode cX8_growthOf 41 = .ok (.aload_n 0, 1) := by decide +kernel
theorem dX8_growthOf_42 : decode cX8_growthOf 42 = .ok (.invokevirtual 103, 3) := by decide +kernel
theorem dX8_growthOf_45 : decode cX8_growthOf 45 = .ok (.aload_n 0, 1) := by decide +kernel
theorem dX8_growthOf_46 : decode cX8_growthOf 46 = .ok (.invokevirtual 107, 3) := by decide +kernel
theorem dX8_growthOf_49 : decode cX8_growthOf 49 = .ok (.invokestatic 98, 3) := by decide +kernel
theorem dX8_growthOf_52 : decode cX8_growthOf 52 = .ok (.iload_n 1, 1) := by decide +kernel
theorem dX8_growthOf_53 : decode cX8_growthOf 53 = .ok (.invokevirtual 110, 3) := by decide +kernel
theorem dX8_growthOf_56 : decode cX8_growthOf 56 = .ok (.ireturn, 1) := by decide +kernel
theorem dX8_hideScheme_0 : decode cX8_hideScheme 0 = .ok (.aload_n 0, 1) := by decide +kernel
theorem dX8_hideScheme_1 : decode cX8_hideScheme 1 = .ok (.iload_n 1, 1) := by decide +kernel
theorem dX8_hideScheme_2 : decode cX8_hideScheme 2 = .ok (.invokevirtual 50, 3) := by decide +kernel
theorem dX8_hideScheme_5 : decode cX8_hideScheme 5 = .ok (.ifCond .eq 19, 3) := by decide +kernel
theorem dX8_hideScheme_8 : decode cX8_hideScheme 8 = .ok (.aload_n 0, 1) := by decide +kernel
theorem dX8_hideScheme_9 : decode cX8_hideScheme 9 = .ok (.aload_n 0, 1) := by decide +kernel
theorem dX8_hideScheme_10 : decode cX8_hideScheme 10 = .ok (.iload_n 1, 1) := by decide +kernel
theorem dX8_hideScheme_11 : decode cX8_hideScheme 11 = .ok (.invokevirtual 54, 3) := by decide +kernel
theorem dX8_hideScheme_14 : decode cX8_hideScheme 14 = .ok (.invokevirtual 89, 3) := by decide +kernel
theorem dX8_hideScheme_17 : decode cX8_hideScheme 17 = .ok (.iload_n 2, 1) := by decide +kernel
theorem dX8_hideScheme_18 : decode cX8_hideScheme 18 = .ok (.ishr, 1) := by decide +kernel
theorem dX8_hideScheme_19 : decode cX8_hideScheme 19 = .ok (.iconst 1, 1) := by decide +kernel
theorem dX8_hideScheme_20 : decode cX8_hideScheme 20 = .ok (.iand, 1) := by decide +kernel
theorem dX8_hideScheme_21 : decode cX8_hideScheme 21 = .ok (.ifCond .ne 5, 3) := by decide +kernel
theorem dX8_hideScheme_24 : decode cX8_hideScheme 24 = .ok (.iconst 0, 1) := by decide +kernel
theorem dX8_hideScheme_25 : decode cX8_hideScheme 25 = .ok (.ireturn, 1) := by decide +kernel
theorem dX8_hideScheme_26 : decode cX8_hideScheme 26 = .ok (.aload_n 0, 1) := by decide +kernel
theorem dX8_hideScheme_27 : decode cX8_hideScheme 27 = .ok (.getfield 11, 3) := by decide +kernel
theorem dX8_hideScheme_30 : decode cX8_hideScheme 30 = .ok (.iconst 5, 1) := by decide +kernel
theorem dX8_hideScheme_31 : decode cX8_hideScheme 31 = .ok (.iload_n 1, 1) := by decide +kernel
theorem dX8_hideScheme_32 : decode cX8_hideScheme 32 = .ok (.iadd, 1) := by decide +kernel
theorem dX8_hideScheme_33 : decode cX8_hideScheme 33 = .ok (.iload_n 2, 1) := by decide +kernel
theorem dX8_hideScheme_34 : decode cX8_hideScheme 34 = .ok (.iastore, 1) := by decide +kernel
theorem dX8_hideScheme_35 : decode cX8_hideScheme 35 = .ok (.iconst 1, 1) := by decide +kernel
theorem dX8_hideScheme_36 : decode cX8_hideScheme 36 = .ok (.ireturn, 1) := by decide +kernel
theorem dX8_callCat_0 : decode cX8_callCat 0 = .ok (.aload_n 0, 1) := by decide +kernel
theorem dX8_callCat_1 : decode cX8_callCat 1 = .ok (.aload_n 0, 1) := by decide +kernel
theorem dX8_callCat_2 : decode cX8_callCat 2 = .ok (.iload_n 1, 1) := by decide +kernel
theorem dX8_callCat_3 : decode cX8_callCat 3 = .ok (.invokevirtual 58, 3) := by decide +kernel
theorem dX8_callCat_6 : decode cX8_callCat 6 = .ok (.invokevirtual 89, 3) := by decide +kernel
theorem dX8_callCat_9 : decode cX8_callCat 9 = .ok (.iload_n 2, 1) := by decide +kernel
theorem dX8_callCat_10 : decode cX8_callCat 10 = .ok (.ishr, 1) := by decide +kernel
theorem dX8_callCat_11 : decode cX8_callCat 11 = .ok (.iconst 1, 1) := by decide +kernel
theorem dX8_callCat_12 : decode cX8_callCat 12 = .ok (.iand, 1) := by decide +kernel
theorem dX8_callCat_13 : decode cX8_callCat 13 = .ok (.ifCond .ne 5, 3) := by decide +kernel
theorem dX8_callCat_16 : decode cX8_callCat 16 = .ok (.iconst 0, 1) := by decide +kernel
theorem dX8_callCat_17 : decode cX8_callCat 17 = .ok (.ireturn, 1) := by decide +kernel
theorem dX8_callCat_18 : decode cX8_callCat 18 = .ok (.aload_n 0, 1) := by decide +kernel
theorem dX8_callCat_19 : decode cX8_callCat 19 = .ok (.getfield 11, 3) := by decide +kernel
theorem dX8_callCat_22 : decode cX8_callCat 22 = .ok (.bipush 37, 2) := by decide +kernel
theorem dX8_callCat_24 : decode cX8_callCat 24 = .ok (.iload_n 1, 1) := by decide +kernel
theorem dX8_callCat_25 : decode cX8_callCat 25 = .ok (.iadd, 1) := by decide +kernel
theorem dX8_callCat_26 : decode cX8_callCat 26 = .ok (.iload_n 2, 1) := by decide +kernel
theorem dX8_callCat_27 : decode cX8_callCat 27 = .ok (.iastore, 1) := by decide +kernel
theorem dX8_callCat_28 : decode cX8_callCat 28 = .ok (.iconst 1, 1) := by decide +kernel
theorem dX8_callCat_29 : decode cX8_callCat 29 = .ok (.ireturn, 1) := by decide +kernel
theorem dX8_feedScheme_0 : decode cX8_feedScheme 0 = .ok (.aload_n 0, 1) := by decide +kernel
theorem dX8_feedScheme_1 : decode cX8_feedScheme 1 = .ok (.iload_n 1, 1) := by decide +kernel
theorem dX8_feedScheme_2 : decode cX8_feedScheme 2 = .ok (.invokevirtual 50, 3) := by decide +kernel
theorem dX8_feedScheme_5 : decode cX8_feedScheme 5 = .ok (.ifCond .eq 14, 3) := by decide +kernel
theorem dX8_feedScheme_8 : decode cX8_feedScheme 8 = .ok (.aload_n 0, 1) := by decide +kernel
theorem dX8_feedScheme_9 : decode cX8_feedScheme 9 = .ok (.iload_n 1, 1) := by decide +kernel
theorem dX8_feedScheme_10 : decode cX8_feedScheme 10 = .ok (.invokevirtual 61, 3) := by decide +kernel
theorem dX8_feedScheme_13 : decode cX8_feedScheme 13 = .ok (.sipush 999, 3) := by decide +kernel
theorem dX8_feedScheme_16 : decode cX8_feedScheme 16 = .ok (.if_icmp .ne 5, 3) := by decide +kernel
theorem dX8_feedScheme_19 : decode cX8_feedScheme 19 = .ok (.iconst 0, 1) := by decide +kernel
theorem dX8_feedScheme_20 : decode cX8_feedScheme 20 = .ok (.ireturn, 1) := by decide +kernel
theorem dX8_feedScheme_21 : decode cX8_feedScheme 21 = .ok (.aload_n 0, 1) := by decide +kernel
theorem dX8_feedScheme_22 : decode cX8_feedScheme 22 = .ok (.iload_n 1, 1) := by decide +kernel
theorem dX8_feedScheme_23 : decode cX8_feedScheme 23 = .ok (.iload_n 2, 1) := by decide +kernel
theorem dX8_feedScheme_24 : decode cX8_feedScheme 24 = .ok (.invokevirtual 116, 3) := by decide +kernel
theorem dX8_feedScheme_27 : decode cX8_feedScheme 27 = .ok (.iconst 1, 1) := by decide +kernel
theorem dX8_feedScheme_28 : decode cX8_feedScheme 28 = .ok (.ireturn, 1) := by decide +kernel
theorem dX8_joinSchemes_0 : decode cX8_joinSchemes 0 = .ok (.iload_n 1, 1) := by decide +kernel
theorem dX8_joinSchemes_1 : decode cX8_joinSchemes 1 = .ok (.iload_n 2, 1) := by decide +kernel
theorem dX8_joinSchemes_2 : decode cX8_joinSchemes 2 = .ok (.if_icmp .eq 32, 3) := by decide +kernel
theorem dX8_joinSchemes_5 : decode cX8_joinSchemes 5 = .ok (.aload_n 0, 1) := by decide +kernel
theorem dX8_joinSchemes_6 : decode cX8_joinSchemes 6 = .ok (.iload_n 1, 1) := by decide +kernel
theorem dX8_joinSchemes_7 : decode cX8_joinSchemes 7 = .ok (.invokevirtual 50, 3) := by decide +kernel
theorem dX8_joinSchemes_10 : decode cX8_joinSchemes 10 = .ok (.ifCond .eq 24, 3) := by decide +kernel
theorem dX8_joinSchemes_13 : decode cX8_joinSchemes 13 = .ok (.aload_n 0, 1) := by decide +kernel
theorem dX8_joinSchemes_14 : decode cX8_joinSchemes 14 = .ok (.iload_n 2, 1) := by decide +kernel
theorem dX8_joinSchemes_15 : decode cX8_joinSchemes 15 = .ok (.invokevirtual 50, 3) := by decide +kernel
theorem dX8_joinSchemes_18 : decode cX8_joinSchemes 18 = .ok (.ifCond .eq 16, 3) := by decide +kernel
theorem dX8_joinSchemes_21 : decode cX8_joinSchemes 21 = .ok (.aload_n 0, 1) := by decide +kernel
theorem dX8_joinSchemes_22 : decode cX8_joinSchemes 22 = .ok (.iload_n 1, 1) := by decide +kernel
theorem dX8_joinSchemes_23 : decode cX8_joinSchemes 23 = .ok (.invokevirtual 54, 3) := by decide +kernel
theorem dX8_joinSchemes_26 : decode cX8_joinSchemes 26 = .ok (.aload_n 0, 1) := by decide +kernel
theorem dX8_joinSchemes_27 : decode cX8_joinSchemes 27 = .ok (.iload_n 2, 1) := by decide +kernel
theorem dX8_joinSchemes_28 : decode cX8_joinSchemes 28 = .ok (.invokevirtual 54, 3) := by decide +kernel
theorem dX8_joinSchemes_31 : decode cX8_joinSchemes 31 = .ok (.if_icmp .eq 5, 3) := by decide +kernel
theorem dX8_joinSchemes_34 : decode cX8_joinSchemes 34 = .ok (.iconst 0, 1) := by decide +kernel
theorem dX8_joinSchemes_35 : decode cX8_joinSchemes 35 = .ok (.ireturn, 1) := by decide +kernel
theorem dX8_joinSchemes_36 : decode cX8_joinSchemes 36 = .ok (.aload_n 0, 1) := by decide +kernel
theorem dX8_joinSchemes_37 : decode cX8_joinSchemes 37 = .ok (.iload_n 1, 1) := by decide +kernel
theorem dX8_joinSchemes_38 : decode cX8_joinSchemes 38 = .ok (.aload_n 0, 1) := by decide +kernel
theorem dX8_joinSchemes_39 : decode cX8_joinSchemes 39 = .ok (.iload_n 2, 1) := by decide +kernel
theorem dX8_joinSchemes_40 : decode cX8_joinSchemes 40 = .ok (.invokevirtual 61, 3) := by decide +kernel
theorem dX8_joinSchemes_43 : decode cX8_joinSchemes 43 = .ok (.invokevirtual 116, 3) := by decide +kernel
theorem dX8_joinSchemes_46 : decode cX8_joinSchemes 46 = .ok (.aload_n 0, 1) := by decide +kernel
theorem dX8_joinSchemes_47 : decode cX8_joinSchemes 47 = .ok (.getfield 11, 3) := by decide +kernel
theorem dX8_joinSchemes_50 : decode cX8_joinSchemes 50 = .ok (.iconst 1, 1) := by decide +kernel
theorem dX8_joinSchemes_51 : decode cX8_joinSchemes 51 = .ok (.dup2, 1) := by decide +kernel
theorem dX8_joinSchemes_52 : decode cX8_joinSchemes 52 = .ok (.iaload, 1) := by decide +kernel
theorem dX8_joinSchemes_53 : decode cX8_joinSchemes 53 = .ok (.iconst 1, 1) := by decide +kernel
theorem dX8_joinSchemes_54 : decode cX8_joinSchemes 54 = .ok (.iload_n 2, 1) := by decide +kernel
theorem dX8_joinSchemes_55 : decode cX8_joinSchemes 55 = .ok (.ishl, 1) := by decide +kernel
theorem dX8_joinSchemes_56 : decode cX8_joinSchemes 56 = .ok (.iconst (-1), 1) := by decide +kernel
theorem dX8_joinSchemes_57 : decode cX8_joinSchemes 57 = .ok (.ixor, 1) := by decide +kernel
theorem dX8_joinSchemes_58 : decode cX8_joinSchemes 58 = .ok (.iand, 1) := by decide +kernel
theorem dX8_joinSchemes_59 : decode cX8_joinSchemes 59 = .ok (.iastore, 1) := by decide +kernel
theorem dX8_joinSchemes_60 : decode cX8_joinSchemes 60 = .ok (.aload_n 0, 1) := by decide +kernel
theorem dX8_joinSchemes_61 : decode cX8_joinSchemes 61 = .ok (.getfield 11, 3) := by decide +kernel
theorem dX8_joinSchemes_64 : decode cX8_joinSchemes 64 = .ok (.iconst 3, 1) := by decide +kernel
theorem dX8_joinSchemes_65 : decode cX8_joinSchemes 65 = .ok (.dup2, 1) := by decide +kernel
theorem dX8_joinSchemes_66 : decode cX8_joinSchemes 66 = .ok (.iaload, 1) := by decide +kernel
theorem dX8_joinSchemes_67 : decode cX8_joinSchemes 67 = .ok (.iconst 1, 1) := by decide +kernel
theorem dX8_joinSchemes_68 : decode cX8_joinSchemes 68 = .ok (.iload_n 2, 1) := by decide +kernel
theorem dX8_joinSchemes_69 : decode cX8_joinSchemes 69 = .ok (.ishl, 1) := by decide +kernel
theorem dX8_joinSchemes_70 : decode cX8_joinSchemes 70 = .ok (.ior, 1) := by decide +kernel
theorem dX8_joinSchemes_71 : decode cX8_joinSchemes 71 = .ok (.iastore, 1) := by decide +kernel
theorem dX8_joinSchemes_72 : decode cX8_joinSchemes 72 = .ok (.iconst 1, 1) := by decide +kernel
theorem dX8_joinSchemes_73 : decode cX8_joinSchemes 73 = .ok (.ireturn, 1) := by decide +kernel
theorem dX8_turnWay_0 : decode cX8_turnWay 0 = .ok (.aload_n 0, 1) := by decide +kernel
theorem dX8_turnWay_1 : decode cX8_turnWay 1 = .ok (.getfield 11, 3) := by decide +kernel
theorem dX8_turnWay_4 : decode cX8_turnWay 4 = .ok (.iconst 4, 1) := by decide +kernel
theorem dX8_turnWay_5 : decode cX8_turnWay 5 = .ok (.dup2, 1) := by decide +kernel
theorem dX8_turnWay_6 : decode cX8_turnWay 6 = .ok (.iaload, 1) := by decide +kernel
theorem dX8_turnWay_7 : decode cX8_turnWay 7 = .ok (.iconst 1, 1) := by decide +kernel
theorem dX8_turnWay_8 : decode cX8_turnWay 8 = .ok (.iload_n 1, 1) := by decide +kernel
theorem dX8_turnWay_9 : decode cX8_turnWay 9 = .ok (.ishl, 1) := by decide +kernel
theorem dX8_turnWay_10 : decode cX8_turnWay 10 = .ok (.ixor, 1) := by decide +kernel
theorem dX8_turnWay_11 : decode cX8_turnWay 11 = .ok (.iastore, 1) := by decide +kernel
theorem dX8_turnWay_12 : decode cX8_turnWay 12 = .ok (.iconst 1, 1) := by decide +kernel
theorem dX8_turnWay_13 : decode cX8_turnWay 13 = .ok (.ireturn, 1) := by decide +kernel
theorem dX8_passNight_0 : decode cX8_passNight 0 = .ok (.iconst 0, 1) := by decide +kernel
theorem dX8_passNight_1 : decode cX8_passNight 1 = .ok (.istore_n 1, 1) := by decide +kernel
theorem dX8_passNight_2 : decode cX8_passNight 2 = .ok (.iload_n 1, 1) := by decide +kernel
theorem dX8_passNight_3 : decode cX8_passNight 3 = .ok (.aload_n 0, 1) := by decide +kernel
theorem dX8_passNight_4 : decode cX8_passNight 4 = .ok (.getfield 18, 3) := by decide +kernel
theorem dX8_passNight_7 : decode cX8_passNight 7 = .ok (.getfield 32, 3) := by decide +kernel
theorem dX8_passNight_10 : decode cX8_passNight 10 = .ok (.if_icmp .ge 27, 3) := by decide +kernel
theorem dX8_passNight_13 : decode cX8_passNight 13 = .ok (.aload_n 0, 1) := by decide +kernel
theorem dX8_passNight_14 : decode cX8_passNight 14 = .ok (.iload_n 1, 1) := by decide +kernel
theorem dX8_passNight_15 : decode cX8_passNight 15 = .ok (.invokevirtual 50, 3) := by decide +kernel
theorem dX8_passNight_18 : decode cX8_passNight 18 = .ok (.ifCond .eq 13, 3) := by decide +kernel
theorem dX8_passNight_21 : decode cX8_passNight 21 = .ok (.aload_n 0, 1) := by decide +kernel
theorem dX8_passNight_22 : decode cX8_passNight 22 = .ok (.iload_n 1, 1) := by decide +kernel
theorem dX8_passNight_23 : decode cX8_passNight 23 = .ok (.aload_n 0, 1) := by decide +kernel
theorem dX8_passNight_24 : decode cX8_passNight 24 = .ok (.iload_n 1, 1) := by decide +kernel
theorem dX8_passNight_25 : decode cX8_passNight 25 = .ok (.invokevirtual 120, 3) := by decide +kernel
theorem dX8_passNight_28 : decode cX8_passNight 28 = .ok (.invokevirtual 116, 3) := by decide +kernel
theorem dX8_passNight_31 : decode cX8_passNight 31 = .ok (.iinc 1 1, 3) := by decide +kernel
theorem dX8_passNight_34 : decode cX8_passNight 34 = .ok (.goto (-32), 3) := by decide +kernel
theorem dX8_passNight_37 : decode cX8_passNight 37 = .ok (.iconst 0, 1) := by decide +kernel
theorem dX8_passNight_38 : decode cX8_passNight 38 = .ok (.istore_n 1, 1) := by decide +kernel
theorem dX8_passNight_39 : decode cX8_passNight 39 = .ok (.iconst 0, 1) := by decide +kernel
theorem dX8_passNight_40 : decode cX8_passNight 40 = .ok (.istore_n 2, 1) := by decide +kernel
theorem dX8_passNight_41 : decode cX8_passNight 41 = .ok (.iload_n 2, 1) := by decide +kernel
theorem dX8_passNight_42 : decode cX8_passNight 42 = .ok (.aload_n 0, 1) := by decide +kernel
theorem dX8_passNight_43 : decode cX8_passNight 43 = .ok (.getfield 18, 3) := by decide +kernel
theorem dX8_passNight_46 : decode cX8_passNight 46 = .ok (.getfield 44, 3) := by decide +kernel
theorem dX8_passNight_49 : decode cX8_passNight 49 = .ok (.if_icmp .ge 54, 3) := by decide +kernel
theorem dX8_passNight_52 : decode cX8_passNight 52 = .ok (.aload_n 0, 1) := by decide +kernel
theorem dX8_passNight_53 : decode cX8_passNight 53 = .ok (.invokevirtual 123, 3) := by decide +kernel
theorem dX8_passNight_56 : decode cX8_passNight 56 = .ok (.ifCond .ne 7, 3) := by decide +kernel
theorem dX8_passNight_59 : decode cX8_passNight 59 = .ok (.iconst (-1), 1) := by decide +kernel
theorem dX8_passNight_60 : decode cX8_passNight 60 = .ok (.goto 12, 3) := by decide +kernel
theorem dX8_passNight_63 : decode cX8_passNight 63 = .ok (.aload_n 0, 1) := by decide +kernel
theorem dX8_passNight_64 : decode cX8_passNight 64 = .ok (.aload_n 0, 1) := by decide +kernel
theorem dX8_passNight_65 : decode cX8_passNight 65 = .ok (.iload_n 2, 1) := by decide +kernel
theorem dX8_passNight_66 : decode cX8_passNight 66 = .ok (.invokevirtual 126, 3) := by decide +kernel
theorem dX8_passNight_69 : decode cX8_passNight 69 = .ok (.invokevirtual 129, 3) := by decide +kernel
theorem dX8_passNight_72 : decode cX8_passNight 72 = .ok (.istore_n 3, 1) := by decide +kernel
theorem dX8_passNight_73 : decode cX8_passNight 73 = .ok (.aload_n 0, 1) := by decide +kernel
theorem dX8_passNight_74 : decode cX8_passNight 74 = .ok (.getfield 15, 3) := by decide +kernel
theorem dX8_passNight_77 : decode cX8_passNight 77 = .ok (.iload_n 2, 1) := by decide +kernel
theorem dX8_passNight_78 : decode cX8_passNight 78 = .ok (.iload_n 3, 1) := by decide +kernel
theorem dX8_passNight_79 : decode cX8_passNight 79 = .ok (.iastore, 1) := by decide +kernel
theorem dX8_passNight_80 : decode cX8_passNight 80 = .ok (.iload_n 3, 1) := by decide +kernel
theorem dX8_passNight_81 : decode cX8_passNight 81 = .ok (.iconst (-1), 1) := by decide +kernel
theorem dX8_passNight_82 : decode cX8_passNight 82 = .ok (.if_icmp .eq 15, 3) := by decide +kernel
theorem dX8_passNight_85 : decode cX8_passNight 85 = .ok (.aload_n 0, 1) := by decide +kernel
theorem dX8_passNight_86 : decode cX8_passNight 86 = .ok (.iload_n 3, 1) := by decide +kernel
theorem dX8_passNight_87 : decode cX8_passNight 87 = .ok (.iload_n 2, 1) := by decide +kernel
theorem dX8_passNight_88 : decode cX8_passNight 88 = .ok (.invokevirtual 132, 3) := by decide +kernel
theorem dX8_passNight_91 : decode cX8_passNight 91 = .ok (.iload_n 1, 1) := by decide +kernel
theorem dX8_passNight_92 : decode cX8_passNight 92 = .ok (.iconst 1, 1) := by decide +kernel
theorem dX8_passNight_93 : decode cX8_passNight 93 = .ok (.iload_n 2, 1) := by decide +kernel
theorem dX8_passNight_94 : decode cX8_passNight 94 = .ok (.ishl, 1) := by decide +kernel
theorem dX8_passNight_95 : decode cX8_passNight 95 = .ok (.ior, 1) := by decide +kernel
theorem dX8_passNight_96 : decode cX8_passNight 96 = .ok (.istore_n 1, 1) := by decide +kernel
theorem dX8_passNight_97 : decode cX8_passNight 97 = .ok (.iinc 2 1, 3) := by decide +kernel
theorem dX8_passNight_100 : decode cX8_passNight 100 = .ok (.goto (-59), 3) := by decide +kernel
theorem dX8_passNight_103 : decode cX8_passNight 103 = .ok (.aload_n 0, 1) := by decide +kernel
theorem dX8_passNight_104 : decode cX8_passNight 104 = .ok (.getfield 11, 3) := by decide +kernel
theorem dX8_passNight_107 : decode cX8_passNight 107 = .ok (.iconst 0, 1) := by decide +kernel
theorem dX8_passNight_108 : decode cX8_passNight 108 = .ok (.dup2, 1) := by decide +kernel
theorem dX8_passNight_109 : decode cX8_passNight 109 = .ok (.iaload, 1) := by decide +kernel
theorem dX8_passNight_110 : decode cX8_passNight 110 = .ok (.iconst 1, 1) := by decide +kernel
theorem dX8_passNight_111 : decode cX8_passNight 111 = .ok (.iadd, 1) := by decide +kernel
theorem dX8_passNight_112 : decode cX8_passNight 112 = .ok (.iastore, 1) := by decide +kernel
theorem dX8_passNight_113 : decode cX8_passNight 113 = .ok (.iload_n 1, 1) := by decide +kernel
theorem dX8_passNight_114 : decode cX8_passNight 114 = .ok (.ireturn, 1) := by decide +kernel
theorem dX8_moveToMat_0 : decode cX8_moveToMat 0 = .ok (.aload_n 0, 1) := by decide +kernel
theorem dX8_moveToMat_1 : decode cX8_moveToMat 1 = .ok (.getfield 11, 3) := by decide +kernel
theorem dX8_moveToMat_4 : decode cX8_moveToMat 4 = .ok (.iconst 1, 1) := by decide +kernel
theorem dX8_moveToMat_5 : decode cX8_moveToMat 5 = .ok (.dup2, 1) := by decide +kernel
theorem dX8_moveToMat_6 : decode cX8_moveToMat 6 = .ok (.iaload, 1) := by decide +kernel
theorem dX8_moveToMat_7 : decode cX8_moveToMat 7 = .ok (.iconst 1, 1) := by decide +kernel
theorem dX8_moveToMat_8 : decode cX8_moveToMat 8 = .ok (.iload_n 1, 1) := by decide +kernel
theorem dX8_moveToMat_9 : decode cX8_moveToMat 9 = .ok (.ishl, 1) := by decide +kernel
theorem dX8_moveToMat_10 : decode cX8_moveToMat 10 = .ok (.iconst (-1), 1) := by decide +kernel
theorem dX8_moveToMat_11 : decode cX8_moveToMat 11 = .ok (.ixor, 1) := by decide +kernel
theorem dX8_moveToMat_12 : decode cX8_moveToMat 12 = .ok (.iand, 1) := by decide +kernel
theorem dX8_moveToMat_13 : decode cX8_moveToMat 13 = .ok (.iastore, 1) := by decide +kernel
theorem dX8_moveToMat_14 : decode cX8_moveToMat 14 = .ok (.aload_n 0, 1) := by decide +kernel
theorem dX8_moveToMat_15 : decode cX8_moveToMat 15 = .ok (.getfield 11, 3) := by decide +kernel
theorem dX8_moveToMat_18 : decode cX8_moveToMat 18 = .ok (.iconst 2, 1) := by decide +kernel
theorem dX8_moveToMat_19 : decode cX8_moveToMat 19 = .ok (.dup2, 1) := by decide +kernel
theorem dX8_moveToMat_20 : decode cX8_moveToMat 20 = .ok (.iaload, 1) := by decide +kernel
theorem dX8_moveToMat_21 : decode cX8_moveToMat 21 = .ok (.iconst 1, 1) := by decide +kernel
theorem dX8_moveToMat_22 : decode cX8_moveToMat 22 = .ok (.iload_n 1, 1) := by decide +kernel
theorem dX8_moveToMat_23 : decode cX8_moveToMat 23 = .ok (.ishl, 1) := by decide +kernel
theorem dX8_moveToMat_24 : decode cX8_moveToMat 24 = .ok (.ior, 1) := by decide +kernel
theorem dX8_moveToMat_25 : decode cX8_moveToMat 25 = .ok (.iastore, 1) := by decide +kernel
theorem dX8_moveToMat_26 : decode cX8_moveToMat 26 = .ok (.aload_n 0, 1) := by decide +kernel
theorem dX8_moveToMat_27 : decode cX8_moveToMat 27 = .ok (.getfield 11, 3) := by decide +kernel
theorem dX8_moveToMat_30 : decode cX8_moveToMat 30 = .ok (.bipush 21, 2) := by decide +kernel
theorem dX8_moveToMat_32 : decode cX8_moveToMat 32 = .ok (.iload_n 1, 1) := by decide +kernel
theorem dX8_moveToMat_33 : decode cX8_moveToMat 33 = .ok (.iadd, 1) := by decide +kernel
theorem dX8_moveToMat_34 : decode cX8_moveToMat 34 = .ok (.aload_n 0, 1) := by decide +kernel
theorem dX8_moveToMat_35 : decode cX8_moveToMat 35 = .ok (.invokevirtual 103, 3) := by decide +kernel
theorem dX8_moveToMat_38 : decode cX8_moveToMat 38 = .ok (.iastore, 1) := by decide +kernel
theorem dX8_moveToMat_39 : decode cX8_moveToMat 39 = .ok (.aload_n 0, 1) := by decide +kernel
theorem dX8_moveToMat_40 : decode cX8_moveToMat 40 = .ok (.getfield 11, 3) := by decide +kernel
theorem dX8_moveToMat_43 : decode cX8_moveToMat 43 = .ok (.bipush 29, 2) := by decide +kernel
theorem dX8_moveToMat_45 : decode cX8_moveToMat 45 = .ok (.iload_n 1, 1) := by decide +kernel
theorem dX8_moveToMat_46 : decode cX8_moveToMat 46 = .ok (.iadd, 1) := by decide +kernel
theorem dX8_moveToMat_47 : decode cX8_moveToMat 47 = .ok (.iload_n 2, 1) := by decide +kernel
theorem dX8_moveToMat_48 : decode cX8_moveToMat 48 = .ok (.iastore, 1) := by decide +kernel
theorem dX8_moveToMat_49 : decode cX8_moveToMat 49 = .ok (.aload_n 0, 1) := by decide +kernel
theorem dX8_moveToMat_50 : decode cX8_moveToMat 50 = .ok (.getfield 11, 3) := by decide +kernel
theorem dX8_moveToMat_53 : decode cX8_moveToMat 53 = .ok (.bipush 42, 2) := by decide +kernel
theorem dX8_moveToMat_55 : decode cX8_moveToMat 55 = .ok (.iload_n 2, 1) := by decide +kernel
theorem dX8_moveToMat_56 : decode cX8_moveToMat 56 = .ok (.iadd, 1) := by decide +kernel
theorem dX8_moveToMat_57 : decode cX8_moveToMat 57 = .ok (.dup2, 1) := by decide +kernel
theorem dX8_moveToMat_58 : decode cX8_moveToMat 58 = .ok (.iaload, 1) := by decide +kernel
theorem dX8_moveToMat_59 : decode cX8_moveToMat 59 = .ok (.iconst 1, 1) := by decide +kernel
theorem dX8_moveToMat_60 : decode cX8_moveToMat 60 = .ok (.iadd, 1) := by decide +kernel
theorem dX8_moveToMat_61 : decode cX8_moveToMat 61 = .ok (.iastore, 1) := by decide +kernel
theorem dX8_moveToMat_62 : decode cX8_moveToMat 62 = .ok (.return_, 1) := by decide +kernel
theorem dX8_enlarge_0 : decode cX8_enlarge 0 = .ok (.aload_n 0, 1) := by decide +kernel
theorem dX8_enlarge_1 : decode cX8_enlarge 1 = .ok (.getfield 11, 3) := by decide +kernel
theorem dX8_enlarge_4 : decode cX8_enlarge 4 = .ok (.bipush 13, 2) := by decide +kernel
theorem dX8_enlarge_6 : decode cX8_enlarge 6 = .ok (.iload_n 1, 1) := by decide +kernel
theorem dX8_enlarge_7 : decode cX8_enlarge 7 = .ok (.iadd, 1) := by decide +kernel
theorem dX8_enlarge_8 : decode cX8_enlarge 8 = .ok (.sipush 999, 3) := by decide +kernel
theorem dX8_enlarge_11 : decode cX8_enlarge 11 = .ok (.aload_n 0, 1) := by decide +kernel
theorem dX8_enlarge_12 : decode cX8_enlarge 12 = .ok (.iload_n 1, 1) := by decide +kernel
theorem dX8_enlarge_13 : decode cX8_enlarge 13 = .ok (.invokevirtual 61, 3) := by decide +kernel
theorem dX8_enlarge_16 : decode cX8_enlarge 16 = .ok (.iload_n 2, 1) := by decide +kernel
theorem dX8_enlarge_17 : decode cX8_enlarge 17 = .ok (.iadd, 1) := by decide +kernel
theorem dX8_enlarge_18 : decode cX8_enlarge 18 = .ok (.invokestatic 135, 3) := by decide +kernel
theorem dX8_enlarge_21 : decode cX8_enlarge 21 = .ok (.iastore, 1) := by decide +kernel
theorem dX8_enlarge_22 : decode cX8_enlarge 22 = .ok (.return_, 1) := by decide +kernel
theorem dX9_init_0 : decode cX9_init 0 = .ok (.aload_n 0, 1) := by decide +kernel
theorem dX9_init_1 : decode cX9_init 1 = .ok (.invokespecial 3, 3) := by decide +kernel
theorem dX9_init_4 : decode cX9_init 4 = .ok (.aload_n 0, 1) := by decide +kernel
theorem dX9_init_5 : decode cX9_init 5 = .ok (.bipush 25, 2) := by decide +kernel
theorem dX9_init_7 : decode cX9_init 7 = .ok (.newarray .int, 2) := by decide +kernel
theorem dX9_init_9 : decode cX9_init 9 = .ok (.putfield 11, 3) := by decide +kernel
theorem dX9_init_12 : decode cX9_init 12 = .ok (.aload_n 0, 1) := by decide +kernel
theorem dX9_init_13 : decode cX9_init 13 = .ok (.bipush 25, 2) := by decide +kernel
theorem dX9_init_15 : decode cX9_init 15 = .ok (.newarray .int, 2) := by decide +kernel
theorem dX9_init_17 : decode cX9_init 17 = .ok (.putfield 15, 3) := by decide +kernel
theorem dX9_init_20 : decode cX9_init 20 = .ok (.aload_n 0, 1) := by decide +kernel
theorem dX9_init_21 : decode cX9_init 21 = .ok (.bipush 25, 2) := by decide +kernel
theorem dX9_init_23 : decode cX9_init 23 = .ok (.newarray .int, 2) := by decide +kernel
theorem dX9_init_25 : decode cX9_init 25 = .ok (.putfield 18, 3) := by decide +kernel
theorem dX9_init_28 : decode cX9_init 28 = .ok (.aload_n 0, 1) := by decide +kernel
theorem dX9_init_29 : decode cX9_init 29 = .ok (.bipush 25, 2) := by decide +kernel
theorem dX9_init_31 : decode cX9_init 31 = .ok (.newarray .int, 2) := by decide +kernel
theorem dX9_init_33 : decode cX9_init 33 = .ok (.putfield 21, 3) := by decide +kernel
theorem dX9_init_36 : decode cX9_init 36 = .ok (.return_, 1) := by decide +kernel
theorem dX9_read_0 : decode cX9_read 0 = .ok (.aload_n 0, 1) := by decide +kernel
theorem dX9_read_1 : decode cX9_read 1 = .ok (.iconst 0, 1) := by decide +kernel
theorem dX9_read_2 : decode cX9_read 2 = .ok (.putfield 24, 3) := by decide +kernel
theorem dX9_read_5 : decode cX9_read 5 = .ok (.iconst 0, 1) := by decide +kernel
theorem dX9_read_6 : decode cX9_read 6 = .ok (.istore_n 3, 1) := by decide +kernel
theorem dX9_read_7 : decode cX9_read 7 = .ok (.iload_n 3, 1) := by decide +kernel
theorem dX9_read_8 : decode cX9_read 8 = .ok (.sipush 150, 3) := by decide +kernel
theorem dX9_read_11 : decode cX9_read 11 = .ok (.if_icmp .ge 23, 3) := by decide +kernel
theorem dX9_read_14 : decode cX9_read 14 = .ok (.aload_n 1, 1) := by decide +kernel
theorem dX9_read_15 : decode cX9_read 15 = .ok (.invokevirtual 28, 3) := by decide +kernel
theorem dX9_read_18 : decode cX9_read 18 = .ok (.ifCond .ne 16, 3) := by decide +kernel
theorem dX9_read_21 : decode cX9_read 21 = .ok (.aload_n 0, 1) := by decide +kernel
theorem dX9_read_22 : decode cX9_read 22 = .ok (.aload_n 1, 1) := by decide +kernel
theorem dX9_read_23 : decode cX9_read 23 = .ok (.aload_n 2, 1) := by decide +kernel
theorem dX9_read_24 : decode cX9_read 24 = .ok (.iconst 0, 1) := by decide +kernel
theorem dX9_read_25 : decode cX9_read 25 = .ok (.invokevirtual 34, 3) := by decide +kernel
theorem dX9_read_28 : decode cX9_read 28 = .ok (.iinc 3 1, 3) := by decide +kernel
theorem dX9_read_31 : decode cX9_read 31 = .ok (.goto (-24), 3) := by decide +kernel
theorem dX9_read_34 : decode cX9_read 34 = .ok (.return_, 1) := by decide +kernel
theorem dX9_readStep_0 : decode cX9_readStep 0 = .ok (.aload_n 1, 1) := by decide +kernel
theorem dX9_readStep_1 : decode cX9_readStep 1 = .ok (.invokevirtual 38, 3) := by decide +kernel
theorem dX9_readStep_4 : decode cX9_readStep 4 = .ok (.istore 4, 2) := by decide +kernel
theorem dX9_readStep_6 : decode cX9_readStep 6 = .ok (.aload_n 1, 1) := by decide +kernel
theorem dX9_readStep_7 : decode cX9_readStep 7 = .ok (.ldc 42, 2) := by decide +kernel
theorem dX9_readStep_9 : decode cX9_readStep 9 = .ok (.invokevirtual 44, 3) := by decide +kernel
theorem dX9_readStep_12 : decode cX9_readStep 12 = .ok (.ifCond .eq 33, 3) := by decide +kernel
theorem dX9_readStep_15 : decode cX9_readStep 15 = .ok (.aload_n 0, 1) := by decide +kernel
theorem dX9_readStep_16 : decode cX9_readStep 16 = .ok (.iconst 0, 1) := by decide +kernel
theorem dX9_readStep_17 : decode cX9_readStep 17 = .ok (.aload_n 1, 1) := by decide +kernel
theorem dX9_readStep_18 : decode cX9_readStep 18 = .ok (.iconst 0, 1) := by decide +kernel
theorem dX9_readStep_19 : decode cX9_readStep 19 = .ok (.aload_n 2, 1) := by decide +kernel
theorem dX9_readStep_20 : decode cX9_readStep 20 = .ok (.getfield 48, 3) := by decide +kernel
theorem dX9_readStep_23 : decode cX9_readStep 23 = .ok (.iconst 1, 1) := by decide +kernel
theorem dX9_readStep_24 : decode cX9_readStep 24 = .ok (.isub, 1) := by decide +kernel
theorem dX9_readStep_25 : decode cX9_readStep 25 = .ok (.invokevirtual 53, 3) := by decide +kernel
theorem dX9_readStep_28 : decode cX9_readStep 28 = .ok (.aload_n 1, 1) := by decide +kernel
theorem dX9_readStep_29 : decode cX9_readStep 29 = .ok (.iconst 0, 1) := by decide +kernel
theorem dX9_readStep_30 : decode cX9_readStep 30 = .ok (.aload_n 2, 1) := by decide +kernel
theorem dX9_readStep_31 : decode cX9_readStep 31 = .ok (.getfield 57, 3) := by decide +kernel
theorem dX9_readStep_34 : decode cX9_readStep 34 = .ok (.iconst 1, 1) := by decide +kernel
theorem dX9_readStep_35 : decode cX9_readStep 35 = .ok (.isub, 1) := by decide +kernel
theorem dX9_readStep_36 : decode cX9_readStep 36 = .ok (.invokevirtual 53, 3) := by decide +kernel
theorem dX9_readStep_39 : decode cX9_readStep 39 = .ok (.invokevirtual 60, 3) := by decide +kernel
theorem dX9_readStep_42 : decode cX9_readStep 42 = .ok (.goto 192, 3) := by decide +kernel
theorem dX9_readStep_45 : decode cX9_readStep 45 = .ok (.aload_n 1, 1) := by decide +kernel
theorem dX9_readStep_46 : decode cX9_readStep 46 = .ok (.ldc 64, 2) := by decide +kernel
theorem dX9_readStep_48 : decode cX9_readStep 48 = .ok (.invokevirtual 44, 3) := by decide +kernel
theorem dX9_readStep_51 : decode cX9_readStep 51 = .ok (.ifCond .eq 33, 3) := by decide +kernel
theorem dX9_readStep_54 : decode cX9_readStep 54 = .ok (.aload_n 0, 1) := by decide +kernel
theorem dX9_readStep_55 : decode cX9_readStep 55 = .ok (.iconst 1, 1) := by decide +kernel
theorem dX9_readStep_56 : decode cX9_readStep 56 = .ok (.aload_n 1, 1) := by decide +kernel
theorem dX9_readStep_57 : decode cX9_readStep 57 = .ok (.iconst 0, 1) := by decide +kernel
theorem dX9_readStep_58 : decode cX9_readStep 58 = .ok (.aload_n 2, 1) := by decide +kernel
theorem dX9_readStep_59 : decode cX9_readStep 59 = .ok (.getfield 66, 3) := by decide +kernel
theorem dX9_readStep_62 : decode cX9_readStep 62 = .ok (.iconst 1, 1) := by decide +kernel
theorem dX9_readStep_63 : decode cX9_readStep 63 = .ok (.isub, 1) := by decide +kernel
theorem dX9_readStep_64 : decode cX9_readStep 64 = .ok (.invokevirtual 53, 3) := by decide +kernel
theorem dX9_readStep_67 : decode cX9_readStep 67 = .ok (.aload_n 1, 1) := by decide +kernel
theorem dX9_readStep_68 : decode cX9_readStep 68 = .ok (.iconst 0, 1) := by decide +kernel
theorem dX9_readStep_69 : decode cX9_readStep 69 = .ok (.aload_n 2, 1) := by decide +kernel
theorem dX9_readStep_70 : decode cX9_readStep 70 = .ok (.getfield 57, 3) := by decide +kernel
theorem dX9_readStep_73 : decode cX9_readStep 73 = .ok (.iconst 1, 1) := by decide +kernel
theorem dX9_readStep_74 : decode cX9_readStep 74 = .ok (.isub, 1) := by decide +kernel
theorem dX9_readStep_75 : decode cX9_readStep 75 = .ok (.invokevirtual 53, 3) := by decide +kernel
theorem dX9_readStep_78 : decode cX9_readStep 78 = .ok (.invokevirtual 60, 3) := by decide +kernel
theorem dX9_readStep_81 : decode cX9_readStep 81 = .ok (.goto 153, 3) := by decide +kernel
theorem dX9_readStep_84 : decode cX9_readStep 84 = .ok (.aload_n 1, 1) := by decide +kernel
theorem dX9_readStep_85 : decode cX9_readStep 85 = .ok (.ldc 69, 2) := by decide +kernel
theorem dX9_readStep_87 : decode cX9_readStep 87 = .ok (.invokevirtual 44, 3) := by decide +kernel
theorem dX9_readStep_90 : decode cX9_readStep 90 = .ok (.ifCond .eq 29, 3) := by decide +kernel
theorem dX9_readStep_93 : decode cX9_readStep 93 = .ok (.aload_n 0, 1) := by decide +kernel
theorem dX9_readStep_94 : decode cX9_readStep 94 = .ok (.iconst 2, 1) := by decide +kernel
theorem dX9_readStep_95 : decode cX9_readStep 95 = .ok (.aload_n 1, 1) := by decide +kernel
theorem dX9_readStep_96 : decode cX9_readStep 96 = .ok (.iconst 0, 1) := by decide +kernel
theorem dX9_readStep_97 : decode cX9_readStep 97 = .ok (.aload_n 2, 1) := by decide +kernel
theorem dX9_readStep_98 : decode cX9_readStep 98 = .ok (.getfield 48, 3) := by decide +kernel
theorem dX9_readStep_101 : decode cX9_readStep 101 = .ok (.iconst 1, 1) := by decide +kernel
theorem dX9_readStep_102 : decode cX9_readStep 102 = .ok (.isub, 1) := by decide +kernel
theorem dX9_readStep_103 : decode cX9_readStep 103 = .ok (.invokevirtual 53, 3) := by decide +kernel
theorem dX9_readStep_106 : decode cX9_readStep 106 = .ok (.aload_n 1, 1) := by decide +kernel
theorem dX9_readStep_107 : decode cX9_readStep 107 = .ok (.iconst 1, 1) := by decide +kernel
theorem dX9_readStep_108 : decode cX9_readStep 108 = .ok (.bipush 60, 2) := by decide +kernel
theorem dX9_readStep_110 : decode cX9_readStep 110 = .ok (.invokevirtual 53, 3) := by decide +kernel
theorem dX9_readStep_113 : decode cX9_readStep 113 = .ok (.invokevirtual 60, 3) := by decide +kernel
theorem dX9_readStep_116 : decode cX9_readStep 116 = .ok (.goto 118, 3) := by decide +kernel
theorem dX9_readStep_119 : decode cX9_readStep 119 = .ok (.aload_n 1, 1) := by decide +kernel
theorem dX9_readStep_120 : decode cX9_readStep 120 = .ok (.ldc 71, 2) := by decide +kernel
theorem dX9_readStep_122 : decode cX9_readStep 122 = .ok (.invokevirtual 44, 3) := by decide +kernel
theorem dX9_readStep_125 : decode cX9_readStep 125 = .ok (.ifCond .eq 33, 3) := by decide +kernel
theorem dX9_readStep_128 : decode cX9_readStep 128 = .ok (.aload_n 0, 1) := by decide +kernel
theorem dX9_readStep_129 : decode cX9_readStep 129 = .ok (.iconst 3, 1) := by decide +kernel
theorem dX9_readStep_130 : decode cX9_readStep 130 = .ok (.aload_n 1, 1) := by decide +kernel
theorem dX9_readStep_131 : decode cX9_readStep 131 = .ok (.iconst 0, 1) := by decide +kernel
theorem dX9_readStep_132 : decode cX9_readStep 132 = .ok (.aload_n 2, 1) := by decide +kernel
theorem dX9_readStep_133 : decode cX9_readStep 133 = .ok (.getfield 48, 3) := by decide +kernel
theorem dX9_readStep_136 : decode cX9_readStep 136 = .ok (.iconst 1, 1) := by decide +kernel
theorem dX9_readStep_137 : decode cX9_readStep 137 = .ok (.isub, 1) := by decide +kernel
theorem dX9_readStep_138 : decode cX9_readStep 138 = .ok (.invokevirtual 53, 3) := by decide +kernel
theorem dX9_readStep_141 : decode cX9_readStep 141 = .ok (.aload_n 1, 1) := by decide +kernel
theorem dX9_readStep_142 : decode cX9_readStep 142 = .ok (.iconst 0, 1) := by decide +kernel
theorem dX9_readStep_143 : decode cX9_readStep 143 = .ok (.aload_n 2, 1) := by decide +kernel
theorem dX9_readStep_144 : decode cX9_readStep 144 = .ok (.getfield 48, 3) := by decide +kernel
theorem dX9_readStep_147 : decode cX9_readStep 147 = .ok (.iconst 1, 1) := by decide +kernel
theorem dX9_readStep_148 : decode cX9_readStep 148 = .ok (.isub, 1) := by decide +kernel
theorem dX9_readStep_149 : decode cX9_readStep 149 = .ok (.invokevirtual 53, 3) := by decide +kernel
theorem dX9_readStep_152 : decode cX9_readStep 152 = .ok (.invokevirtual 60, 3) := by decide +kernel
theorem dX9_readStep_155 : decode cX9_readStep 155 = .ok (.goto 79, 3) := by decide +kernel
theorem dX9_readStep_158 : decode cX9_readStep 158 = .ok (.aload_n 1, 1) := by decide +kernel
theorem dX9_readStep_159 : decode cX9_readStep 159 = .ok (.ldc 73, 2) := by decide +kernel
theorem dX9_readStep_161 : decode cX9_readStep 161 = .ok (.invokevirtual 44, 3) := by decide +kernel
theorem dX9_readStep_164 : decode cX9_readStep 164 = .ok (.ifCond .eq 23, 3) := by decide +kernel
theorem dX9_readStep_167 : decode cX9_readStep 167 = .ok (.aload_n 0, 1) := by decide +kernel
theorem dX9_readStep_168 : decode cX9_readStep 168 = .ok (.iconst 4, 1) := by decide +kernel
theorem dX9_readStep_169 : decode cX9_readStep 169 = .ok (.aload_n 1, 1) := by decide +kernel
theorem dX9_readStep_170 : decode cX9_readStep 170 = .ok (.iconst 0, 1) := by decide +kernel
theorem dX9_readStep_171 : decode cX9_readStep 171 = .ok (.aload_n 2, 1) := by decide +kernel
theorem dX9_readStep_172 : decode cX9_readStep 172 = .ok (.getfield 75, 3) := by decide +kernel
theorem dX9_readStep_175 : decode cX9_readStep 175 = .ok (.iconst 1, 1) := by decide +kernel
theorem dX9_readStep_176 : decode cX9_readStep 176 = .ok (.isub, 1) := by decide +kernel
theorem dX9_readStep_177 : decode cX9_readStep 177 = .ok (.invokevirtual 53, 3) := by decide +kernel
theorem dX9_readStep_180 : decode cX9_readStep 180 = .ok (.iconst 0, 1) := by decide +kernel
theorem dX9_readStep_181 : decode cX9_readStep 181 = .ok (.invokevirtual 60, 3) := by decide +kernel
theorem dX9_readStep_184 : decode cX9_readStep 184 = .ok (.goto 50, 3) := by decide +kernel
theorem dX9_readStep_187 : decode cX9_readStep 187 = .ok (.aload_n 1, 1) := by decide +kernel
theorem dX9_readStep_188 : decode cX9_readStep 188 = .ok (.ldc 78, 2) := by decide +kernel
theorem dX9_readStep_190 : decode cX9_readStep 190 = .ok (.invokevirtual 44, 3) := by decide +kernel
theorem dX9_readStep_193 : decode cX9_readStep 193 = .ok (.ifCond .eq 13, 3) := by decide +kernel
theorem dX9_readStep_196 : decode cX9_readStep 196 = .ok (.aload_n 0, 1) := by decide +kernel
theorem dX9_readStep_197 : decode cX9_readStep 197 = .ok (.iconst 5, 1) := by decide +kernel
theorem dX9_readStep_198 : decode cX9_readStep 198 = .ok (.iconst 0, 1) := by decide +kernel
theorem dX9_readStep_199 : decode cX9_readStep 199 = .ok (.iconst 0, 1) := by decide +kernel
theorem dX9_readStep_200 : decode cX9_readStep 200 = .ok (.invokevirtual 60, 3) := by decide +kernel
theorem dX9_readStep_203 : decode cX9_readStep 203 = .ok (.goto 31, 3) := by decide +kernel
theorem dX9_readStep_206 : decode cX9_readStep 206 = .ok (.aload_n 1, 1) := by decide +kernel
theorem dX9_readStep_207 : decode cX9_readStep 207 = .ok (.ldc 80, 2) := by decide +kernel
theorem dX9_readStep_209 : decode cX9_readStep 209 = .ok (.invokevirtual 44, 3) := by decide +kernel
theorem dX9_readStep_212 : decode cX9_readStep 212 = .ok (.ifCond .eq 15, 3) := by decide +kernel
theorem dX9_readStep_215 : decode cX9_readStep 215 = .ok (.aload_n 0, 1) := by decide +kernel
theorem dX9_readStep_216 : decode cX9_readStep 216 = .ok (.aload_n 1, 1) := by decide +kernel
theorem dX9_readStep_217 : decode cX9_readStep 217 = .ok (.aload_n 2, 1) := by decide +kernel
theorem dX9_readStep_218 : decode cX9_readStep 218 = .ok (.iload 4, 2) := by decide +kernel
theorem dX9_readStep_220 : decode cX9_readStep 220 = .ok (.iload_n 3, 1) := by decide +kernel
theorem dX9_readStep_221 : decode cX9_readStep 221 = .ok (.invokevirtual 82, 3) := by decide +kernel
theorem dX9_readStep_224 : decode cX9_readStep 224 = .ok (.goto 10, 3) := by decide +kernel
theorem dX9_readStep_227 : decode cX9_readStep 227 = .ok (.aload_n 1, 1) := by decide +kernel
theorem dX9_readStep_228 : decode cX9_readStep 228 = .ok (.iconst 1, 1) := by decide +kernel
theorem dX9_readStep_229 : decode cX9_readStep 229 = .ok (.iload 4, 2) := by decide +kernel
theorem dX9_readStep_231 : decode cX9_readStep 231 = .ok (.invokevirtual 86, 3) := by decide +kernel
theorem dX9_readStep_234 : decode cX9_readStep 234 = .ok (.aload_n 1, 1) := by decide +kernel
theorem dX9_readStep_235 : decode cX9_readStep 235 = .ok (.bipush 59, 2) := by decide +kernel
theorem dX9_readStep_237 : decode cX9_readStep 237 = .ok (.invokevirtual 90, 3) := by decide +kernel
theorem dX9_readStep_240 : decode cX9_readStep 240 = .ok (.return_, 1) := by decide +kernel
theorem dX9_readAgain_0 : decode cX9_readAgain 0 = .ok (.iload 4, 2) := by decide +kernel
theorem dX9_readAgain_2 : decode cX9_readAgain 2 = .ok (.bipush 6, 2) := by decide +kernel
theorem dX9_readAgain_4 : decode cX9_readAgain 4 = .ok (.if_icmp .lt 10, 3) := by decide +kernel
theorem dX9_readAgain_7 : decode cX9_readAgain 7 = .ok (.aload_n 1, 1) := by decide +kernel
theorem dX9_readAgain_8 : decode cX9_readAgain 8 = .ok (.iconst 3, 1) := by decide +kernel
theorem dX9_readAgain_9 : decode cX9_readAgain 9 = .ok (.iload_n 3, 1) := by decide +kernel
theorem dX9_readAgain_10 : decode cX9_readAgain 10 = .ok (.invokevirtual 86, 3) := by decide +kernel
theorem dX9_readAgain_13 : decode cX9_readAgain 13 = .ok (.return_, 1) := by decide +kernel
theorem dX9_readAgain_14 : decode cX9_readAgain 14 = .ok (.aload_n 0, 1) := by decide +kernel
theorem dX9_readAgain_15 : decode cX9_readAgain 15 = .ok (.getfield 24, 3) := by decide +kernel
theorem dX9_readAgain_18 : decode cX9_readAgain 18 = .ok (.istore 5, 2) := by decide +kernel
theorem dX9_readAgain_20 : decode cX9_readAgain 20 = .ok (.aload_n 0, 1) := by decide +kernel
theorem dX9_readAgain_21 : decode cX9_readAgain 21 = .ok (.bipush 6, 2) := by decide +kernel
theorem dX9_readAgain_23 : decode cX9_readAgain 23 = .ok (.aload_n 1, 1) := by decide +kernel
theorem dX9_readAgain_24 : decode cX9_readAgain 24 = .ok (.iconst 0, 1) := by decide +kernel
theorem dX9_readAgain_25 : decode cX9_readAgain 25 = .ok (.bipush 60, 2) := by decide +kernel
theorem dX9_readAgain_27 : decode cX9_readAgain 27 = .ok (.invokevirtual 53, 3) := by decide +kernel
theorem dX9_readAgain_30 : decode cX9_readAgain 30 = .ok (.iconst 0, 1) := by decide +kernel
theorem dX9_readAgain_31 : decode cX9_readAgain 31 = .ok (.invokevirtual 60, 3) := by decide +kernel
theorem dX9_readAgain_34 : decode cX9_readAgain 34 = .ok (.aload_n 1, 1) := by decide +kernel
theorem dX9_readAgain_35 : decode cX9_readAgain 35 = .ok (.bipush 91, 2) := by decide +kernel
theorem dX9_readAgain_37 : decode cX9_readAgain 37 = .ok (.invokevirtual 90, 3) := by decide +kernel
theorem dX9_readAgain_40 : decode cX9_readAgain 40 = .ok (.iconst 0, 1) := by decide +kernel
theorem dX9_readAgain_41 : decode cX9_readAgain 41 = .ok (.istore 6, 2) := by decide +kernel
theorem dX9_readAgain_43 : decode cX9_readAgain 43 = .ok (.iload 6, 2) := by decide +kernel
theorem dX9_readAgain_45 : decode cX9_readAgain 45 = .ok (.sipush 150, 3) := by decide +kernel
theorem dX9_readAgain_48 : decode cX9_readAgain 48 = .ok (.if_icmp .ge 35, 3) := by decide +kernel
theorem dX9_readAgain_51 : decode cX9_readAgain 51 = .ok (.aload_n 1, 1) := by decide +kernel
theorem dX9_readAgain_52 : decode cX9_readAgain 52 = .ok (.invokevirtual 28, 3) := by decide +kernel
theorem dX9_readAgain_55 : decode cX9_readAgain 55 = .ok (.ifCond .ne 28, 3) := by decide +kernel
theorem dX9_readAgain_58 : decode cX9_readAgain 58 = .ok (.aload_n 1, 1) := by decide +kernel
theorem dX9_readAgain_59 : decode cX9_readAgain 59 = .ok (.invokevirtual 94, 3) := by decide +kernel
theorem dX9_readAgain_62 : decode cX9_readAgain 62 = .ok (.bipush 93, 2) := by decide +kernel
theorem dX9_readAgain_64 : decode cX9_readAgain 64 = .ok (.if_icmp .eq 19, 3) := by decide +kernel
theorem dX9_readAgain_67 : decode cX9_readAgain 67 = .ok (.aload_n 0, 1) := by decide +kernel
theorem dX9_readAgain_68 : decode cX9_readAgain 68 = .ok (.aload_n 1, 1) := by decide +kernel
theorem dX9_readAgain_69 : decode cX9_readAgain 69 = .ok (.aload_n 2, 1) := by decide +kernel
theorem dX9_readAgain_70 : decode cX9_readAgain 70 = .ok (.iload 4, 2) := by decide +kernel
theorem dX9_readAgain_72 : decode cX9_readAgain 72 = .ok (.iconst 1, 1) := by decide +kernel
theorem dX9_readAgain_73 : decode cX9_readAgain 73 = .ok (.iadd, 1) := by decide +kernel
theorem dX9_readAgain_74 : decode cX9_readAgain 74 = .ok (.invokevirtual 34, 3) := by decide +kernel
theorem dX9_readAgain_77 : decode cX9_readAgain 77 = .ok (.iinc 6 1, 3) := by decide +kernel
theorem dX9_readAgain_80 : decode cX9_readAgain 80 = .ok (.goto (-37), 3) := by decide +kernel
theorem dX9_readAgain_83 : decode cX9_readAgain 83 = .ok (.aload_n 1, 1) := by decide +kernel
theorem dX9_readAgain_84 : decode cX9_readAgain 84 = .ok (.bipush 93, 2) := by decide +kernel
theorem dX9_readAgain_86 : decode cX9_readAgain 86 = .ok (.invokevirtual 90, 3) := by decide +kernel
theorem dX9_readAgain_89 : decode cX9_readAgain 89 = .ok (.iload 5, 2) := by decide +kernel
theorem dX9_readAgain_91 : decode cX9_readAgain 91 = .ok (.bipush 25, 2) := by decide +kernel
theorem dX9_readAgain_93 : decode cX9_readAgain 93 = .ok (.if_icmp .ge 14, 3) := by decide +kernel
theorem dX9_readAgain_96 : decode cX9_readAgain 96 = .ok (.aload_n 0, 1) := by decide +kernel
theorem dX9_readAgain_97 : decode cX9_readAgain 97 = .ok (.getfield 21, 3) := by decide +kernel
theorem dX9_readAgain_100 : decode cX9_readAgain 100 = .ok (.iload 5, 2) := by decide +kernel
theorem dX9_readAgain_102 : decode cX9_readAgain 102 = .ok (.aload_n 0, 1) := by decide +kernel
theorem dX9_readAgain_103 : decode cX9_readAgain 103 = .ok (.getfield 24, 3) := by decide +kernel
theorem dX9_readAgain_106 : decode cX9_readAgain 106 = .ok (.iastore, 1) := by decide +kernel
theorem dX9_readAgain_107 : decode cX9_readAgain 107 = .ok (.return_, 1) := by decide +kernel
theorem dX9_put_0 : decode cX9_put 0 = .ok (.aload_n 0, 1) := by decide +kernel
theorem dX9_put_1 : decode cX9_put 1 = .ok (.getfield 24, 3) := by decide +kernel
theorem dX9_put_4 : decode cX9_put 4 = .ok (.bipush 25, 2) := by decide +kernel
theorem dX9_put_6 : decode cX9_put 6 = .ok (.if_icmp .ge 58, 3) := by decide +kernel
theorem dX9_put_9 : decode cX9_put 9 = .ok (.aload_n 0, 1) := by decide +kernel
theorem dX9_put_10 : decode cX9_put 10 = .ok (.getfield 11, 3) := by decide +kernel
theorem dX9_put_13 : decode cX9_put 13 = .ok (.aload_n 0, 1) := by decide +kernel
theorem dX9_put_14 : decode cX9_put 14 = .ok (.getfield 24, 3) := by decide +kernel
theorem dX9_put_17 : decode cX9_put 17 = .ok (.iload_n 1, 1) := by decide +kernel
theorem dX9_put_18 : decode cX9_put 18 = .ok (.iastore, 1) := by decide +kernel
theorem dX9_put_19 : decode cX9_put 19 = .ok (.aload_n 0, 1) := by decide +kernel
theorem dX9_put_20 : decode cX9_put 20 = .ok (.getfield 15, 3) := by decide +kernel
theorem dX9_put_23 : decode cX9_put 23 = .ok (.aload_n 0, 1) := by decide +kernel
theorem dX9_put_24 : decode cX9_put 24 = .ok (.getfield 24, 3) := by decide +kernel
theorem dX9_put_27 : decode cX9_put 27 = .ok (.iload_n 2, 1) := by decide +kernel
theorem dX9_put_28 : decode cX9_put 28 = .ok (.iastore, 1) := by decide +kernel
theorem dX9_put_29 : decode cX9_put 29 = .ok (.aload_n 0, 1) := by decide +kernel
theorem dX9_put_30 : decode cX9_put 30 = .ok (.getfield 18, 3) := by decide +kernel
theorem dX9_put_33 : decode cX9_put 33 = .ok (.aload_n 0, 1) := by decide +kernel
theorem dX9_put_34 : decode cX9_put 34 = .ok (.getfield 24, 3) := by decide +kernel
theorem dX9_put_37 : decode cX9_put 37 = .ok (.iload_n 3, 1) := by decide +kernel
theorem dX9_put_38 : decode cX9_put 38 = .ok (.iastore, 1) := by decide +kernel
theorem dX9_put_39 : decode cX9_put 39 = .ok (.aload_n 0, 1) := by decide +kernel
theorem dX9_put_40 : decode cX9_put 40 = .ok (.dup, 1) := by decide +kernel
theorem dX9_put_41 : decode cX9_put 41 = .ok (.getfield 24, 3) := by decide +kernel
theorem dX9_put_44 : decode cX9_put 44 = .ok (.iconst 1, 1) := by decide +kernel
theorem dX9_put_45 : decode cX9_put 45 = .ok (.iadd, 1) := by decide +kernel
theorem dX9_put_46 : decode cX9_put 46 = .ok (.putfield 24, 3) := by decide +kernel
theorem dX9_put_49 : decode cX9_put 49 = .ok (.aload_n 0, 1) := by decide +kernel
theorem dX9_put_50 : decode cX9_put 50 = .ok (.getfield 21, 3) := by decide +kernel
theorem dX9_put_53 : decode cX9_put 53 = .ok (.aload_n 0, 1) := by decide +kernel
theorem dX9_put_54 : decode cX9_put 54 = .ok (.getfield 24, 3) := by decide +kernel
theorem dX9_put_57 : decode cX9_put 57 = .ok (.iconst 1, 1) := by decide +kernel
theorem dX9_put_58 : decode cX9_put 58 = .ok (.isub, 1) := by decide +kernel
theorem dX9_put_59 : decode cX9_put 59 = .ok (.aload_n 0, 1) := by decide +kernel
theorem dX9_put_60 : decode cX9_put 60 = .ok (.getfield 24, 3) := by decide +kernel
theorem dX9_put_63 : decode cX9_put 63 = .ok (.iastore, 1) := by decide +kernel
theorem dX9_put_64 : decode cX9_put 64 = .ok (.return_, 1) := by decide +kernel
theorem dX9_begin_0 : decode cX9_begin 0 = .ok (.aload_n 0, 1) := by decide +kernel
theorem dX9_begin_1 : decode cX9_begin 1 = .ok (.iconst 0, 1) := by decide +kernel
theorem dX9_begin_2 : decode cX9_begin 2 = .ok (.putfield 97, 3) := by decide +kernel
theorem dX9_begin_5 : decode cX9_begin 5 = .ok (.aload_n 0, 1) := by decide +kernel
theorem dX9_begin_6 : decode cX9_begin 6 = .ok (.iconst 0, 1) := by decide +kernel
theorem dX9_begin_7 : decode cX9_begin 7 = .ok (.putfield 100, 3) := by decide +kernel
theorem dX9_begin_10 : decode cX9_begin 10 = .ok (.aload_n 0, 1) := by decide +kernel
theorem dX9_begin_11 : decode cX9_begin 11 = .ok (.iconst 0, 1) := by decide +kernel
theorem dX9_begin_12 : decode cX9_begin 12 = .ok (.putfield 103, 3) := by decide +kernel
theorem dX9_begin_15 : decode cX9_begin 15 = .ok (.return_, 1) := by decide +kernel
theorem dX9_many_0 : decode cX9_many 0 = .ok (.aload_n 0, 1) := by decide +kernel
theorem dX9_many_1 : decode cX9_many 1 = .ok (.getfield 24, 3) := by decide +kernel
theorem dX9_many_4 : decode cX9_many 4 = .ok (.ireturn, 1) := by decide +kernel
theorem dX9_run_0 : decode cX9_run 0 = .ok (.iload_n 2, 1) := by decide +kernel
theorem dX9_run_1 : decode cX9_run 1 = .ok (.istore 5, 2) := by decide +kernel
theorem dX9_run_3 : decode cX9_run 3 = .ok (.iload 5, 2) := by decide +kernel
theorem dX9_run_5 : decode cX9_run 5 = .ok (.iload_n 3, 1) := by decide +kernel
theorem dX9_run_6 : decode cX9_run 6 = .ok (.if_icmp .ge 110, 3) := by decide +kernel
theorem dX9_run_9 : decode cX9_run 9 = .ok (.aload_n 0, 1) := by decide +kernel
theorem dX9_run_10 : decode cX9_run 10 = .ok (.getfield 97, 3) := by decide +kernel
theorem dX9_run_13 : decode cX9_run 13 = .ok (.sipush 200, 3) := by decide +kernel
theorem dX9_run_16 : decode cX9_run 16 = .ok (.if_icmp .ge 100, 3) := by decide +kernel
theorem dX9_run_19 : decode cX9_run 19 = .ok (.aload_n 0, 1) := by decide +kernel
theorem dX9_run_20 : decode cX9_run 20 = .ok (.dup, 1) := by decide +kernel
theorem dX9_run_21 : decode cX9_run 21 = .ok (.getfield 97, 3) := by decide +kernel
theorem dX9_run_24 : decode cX9_run 24 = .ok (.iconst 1, 1) := by decide +kernel
theorem dX9_run_25 : decode cX9_run 25 = .ok (.iadd, 1) := by decide +kernel
theorem dX9_run_26 : decode cX9_run 26 = .ok (.putfield 97, 3) := by decide +kernel
theorem dX9_run_29 : decode cX9_run 29 = .ok (.aload_n 0, 1) := by decide +kernel
theorem dX9_run_30 : decode cX9_run 30 = .ok (.getfield 11, 3) := by decide +kernel
theorem dX9_run_33 : decode cX9_run 33 = .ok (.iload 5, 2) := by decide +kernel
theorem dX9_run_35 : decode cX9_run 35 = .ok (.iaload, 1) := by decide +kernel
theorem dX9_run_36 : decode cX9_run 36 = .ok (.bipush 6, 2) := by decide +kernel
theorem dX9_run_38 : decode cX9_run 38 = .ok (.if_icmp .ne 15, 3) := by decide +kernel
theorem dX9_run_41 : decode cX9_run 41 = .ok (.aload_n 0, 1) := by decide +kernel
theorem dX9_run_42 : decode cX9_run 42 = .ok (.aload_n 1, 1) := by decide +kernel
theorem dX9_run_43 : decode cX9_run 43 = .ok (.iload 5, 2) := by decide +kernel
theorem dX9_run_45 : decode cX9_run 45 = .ok (.iload 4, 2) := by decide +kernel
theorem dX9_run_47 : decode cX9_run 47 = .ok (.invokevirtual 106, 3) := by decide +kernel
theorem dX9_run_50 : decode cX9_run 50 = .ok (.goto 54, 3) := by decide +kernel
theorem dX9_run_53 : decode cX9_run 53 = .ok (.aload_n 1, 1) := by decide +kernel
theorem dX9_run_54 : decode cX9_run 54 = .ok (.aload_n 0, 1) := by decide +kernel
theorem dX9_run_55 : decode cX9_run 55 = .ok (.getfield 11, 3) := by decide +kernel
theorem dX9_run_58 : decode cX9_run 58 = .ok (.iload 5, 2) := by decide +kernel
theorem dX9_run_60 : decode cX9_run 60 = .ok (.iaload, 1) := by decide +kernel
theorem dX9_run_61 : decode cX9_run 61 = .ok (.aload_n 0, 1) := by decide +kernel
theorem dX9_run_62 : decode cX9_run 62 = .ok (.getfield 15, 3) := by decide +kernel
theorem dX9_run_65 : decode cX9_run 65 = .ok (.iload 5, 2) := by decide +kernel
theorem dX9_run_67 : decode cX9_run 67 = .ok (.iaload, 1) := by decide +kernel
theorem dX9_run_68 : decode cX9_run 68 = .ok (.aload_n 0, 1) := by decide +kernel
theorem dX9_run_69 : decode cX9_run 69 = .ok (.getfield 18, 3) := by decide +kernel
theorem dX9_run_72 : decode cX9_run 72 = .ok (.iload 5, 2) := by decide +kernel
theorem dX9_run_74 : decode cX9_run 74 = .ok (.iaload, 1) := by decide +kernel
theorem dX9_run_75 : decode cX9_run 75 = .ok (.invokestatic 110, 3) := by decide +kernel
theorem dX9_run_78 : decode cX9_run 78 = .ok (.ifCond .eq 16, 3) := by decide +kernel
theorem dX9_run_81 : decode cX9_run 81 = .ok (.aload_n 0, 1) := by decide +kernel
theorem dX9_run_82 : decode cX9_run 82 = .ok (.dup, 1) := by decide +kernel
theorem dX9_run_83 : decode cX9_run 83 = .ok (.getfield 100, 3) := by decide +kernel
theorem dX9_run_86 : decode cX9_run 86 = .ok (.iconst 1, 1) := by decide +kernel
theorem dX9_run_87 : decode cX9_run 87 = .ok (.iadd, 1) := by decide +kernel
theorem dX9_run_88 : decode cX9_run 88 = .ok (.putfield 100, 3) := by decide +kernel
theorem dX9_run_91 : decode cX9_run 91 = .ok (.goto 13, 3) := by decide +kernel
theorem dX9_run_94 : decode cX9_run 94 = .ok (.aload_n 0, 1) := by decide +kernel
theorem dX9_run_95 : decode cX9_run 95 = .ok (.dup, 1) := by decide +kernel
theorem dX9_run_96 : decode cX9_run 96 = .ok (.getfield 103, 3) := by decide +kernel
theorem dX9_run_99 : decode cX9_run 99 = .ok (.iconst 1, 1) := by decide +kernel
theorem dX9_run_100 : decode cX9_run 100 = .ok (.iadd, 1) := by decide +kernel
theorem dX9_run_101 : decode cX9_run 101 = .ok (.putfield 103, 3) := by decide +kernel
theorem dX9_run_104 : decode cX9_run 104 = .ok (.aload_n 0, 1) := by decide +kernel
theorem dX9_run_105 : decode cX9_run 105 = .ok (.getfield 21, 3) := by decide +kernel
theorem dX9_run_108 : decode cX9_run 108 = .ok (.iload 5, 2) := by decide +kernel
theorem dX9_run_110 : decode cX9_run 110 = .ok (.iaload, 1) := by decide +kernel
theorem dX9_run_111 : decode cX9_run 111 = .ok (.istore 5, 2) := by decide +kernel
theorem dX9_run_113 : decode cX9_run 113 = .ok (.goto (-110), 3) := by decide +kernel
theorem dX9_run_116 : decode cX9_run 116 = .ok (.return_, 1) := by decide +kernel
theorem dX9_repeatBody_0 : decode cX9_repeatBody 0 = .ok (.iload_n 3, 1) := by decide +kernel
theorem dX9_repeatBody_1 : decode cX9_repeatBody 1 = .ok (.bipush 6, 2) := by decide +kernel
theorem dX9_repeatBody_3 : decode cX9_repeatBody 3 = .ok (.if_icmp .lt 4, 3) := by decide +kernel
theorem dX9_repeatBody_6 : decode cX9_repeatBody 6 = .ok (.return_, 1) := by decide +kernel
theorem dX9_repeatBody_7 : decode cX9_repeatBody 7 = .ok (.iconst 0, 1) := by decide +kernel
theorem dX9_repeatBody_8 : decode cX9_repeatBody 8 = .ok (.istore 4, 2) := by decide +kernel
theorem dX9_repeatBody_10 : decode cX9_repeatBody 10 = .ok (.iload 4, 2) := by decide +kernel
theorem dX9_repeatBody_12 : decode cX9_repeatBody 12 = .ok (.aload_n 0, 1) := by decide +kernel
theorem dX9_repeatBody_13 : decode cX9_repeatBody 13 = .ok (.getfield 15, 3) := by decide +kernel
theorem dX9_repeatBody_16 : decode cX9_repeatBody 16 = .ok (.iload_n 2, 1) := by decide +kernel
theorem dX9_repeatBody_17 : decode cX9_repeatBody 17 = .ok (.iaload, 1) := by decide +kernel
theorem dX9_repeatBody_18 : decode cX9_repeatBody 18 = .ok (.if_icmp .ge 36, 3) := by decide +kernel
theorem dX9_repeatBody_21 : decode cX9_repeatBody 21 = .ok (.aload_n 0, 1) := by decide +kernel
theorem dX9_repeatBody_22 : decode cX9_repeatBody 22 = .ok (.getfield 97, 3) := by decide +kernel
theorem dX9_repeatBody_25 : decode cX9_repeatBody 25 = .ok (.sipush 200, 3) := by decide +kernel
theorem dX9_repeatBody_28 : decode cX9_repeatBody 28 = .ok (.if_icmp .ge 26, 3) := by decide +kernel
theorem dX9_repeatBody_31 : decode cX9_repeatBody 31 = .ok (.aload_n 0, 1) := by decide +kernel
theorem dX9_repeatBody_32 : decode cX9_repeatBody 32 = .ok (.aload_n 1, 1) := by decide +kernel
theorem dX9_repeatBody_33 : decode cX9_repeatBody 33 = .ok (.iload_n 2, 1) := by decide +kernel
theorem dX9_repeatBody_34 : decode cX9_repeatBody 34 = .ok (.iconst 1, 1) := by decide +kernel
theorem dX9_repeatBody_35 : decode cX9_repeatBody 35 = .ok (.iadd, 1) := by decide +kernel
theorem dX9_repeatBody_36 : decode cX9_repeatBody 36 = .ok (.aload_n 0, 1) := by decide +kernel
theorem dX9_repeatBody_37 : decode cX9_repeatBody 37 = .ok (.getfield 21, 3) := by decide +kernel
theorem dX9_repeatBody_40 : decode cX9_repeatBody 40 = .ok (.iload_n 2, 1) := by decide +kernel
theorem dX9_repeatBody_41 : decode cX9_repeatBody 41 = .ok (.iaload, 1) := by decide +kernel
theorem dX9_repeatBody_42 : decode cX9_repeatBody 42 = .ok (.iload_n 3, 1) := by decide +kernel
theorem dX9_repeatBody_43 : decode cX9_repeatBody 43 = .ok (.iconst 1, 1) := by decide +kernel
theorem dX9_repeatBody_44 : decode cX9_repeatBody 44 = .ok (.iadd, 1) := by decide +kernel
theorem dX9_repeatBody_45 : decode cX9_repeatBody 45 = .ok (.invokevirtual 114, 3) := by decide +kernel
theorem dX9_repeatBody_48 : decode cX9_repeatBody 48 = .ok (.iinc 4 1, 3) := by decide +kernel
theorem dX9_repeatBody_51 : decode cX9_repeatBody 51 = .ok (.goto (-41), 3) := by decide +kernel
theorem dX9_repeatBody_54 : decode cX9_repeatBody 54 = .ok (.return_, 1) := by decide +kernel
theorem dX9_isDone_0 : decode cX9_isDone 0 = .ok (.iload_n 1, 1) := by decide +kernel
theorem dX9_isDone_1 : decode cX9_isDone 1 = .ok (.tableswitch 69 0 4 #[35, 42, 49, 56, 63], 35) := by decide +kernel
theorem dX9_isDone_36 : decode cX9_isDone 36 = .ok (.aload_n 0, 1) := by decide +kernel
theorem dX9_isDone_37 : decode cX9_isDone 37 = .ok (.iload_n 2, 1) := by decide +kernel
theorem dX9_isDone_38 : decode cX9_isDone 38 = .ok (.iload_n 3, 1) := by decide +kernel
theorem dX9_isDone_39 : decode cX9_isDone 39 = .ok (.invokevirtual 118, 3) := by decide +kernel
theorem dX9_isDone_42 : decode cX9_isDone 42 = .ok (.ireturn, 1) := by decide +kernel
theorem dX9_isDone_43 : decode cX9_isDone 43 = .ok (.aload_n 0, 1) := by decide +kernel
theorem dX9_isDone_44 : decode cX9_isDone 44 = .ok (.iload_n 2, 1) := by decide +kernel
theorem dX9_isDone_45 : decode cX9_isDone 45 = .ok (.iload_n 3, 1) := by decide +kernel
theorem dX9_isDone_46 : decode cX9_isDone 46 = .ok (.invokevirtual 124, 3) := by decide +kernel
theorem dX9_isDone_49 : decode cX9_isDone 49 = .ok (.ireturn, 1) := by decide +kernel
theorem dX9_isDone_50 : decode cX9_isDone 50 = .ok (.aload_n 0, 1) := by decide +kernel
theorem dX9_isDone_51 : decode cX9_isDone 51 = .ok (.iload_n 2, 1) := by decide +kernel
theorem dX9_isDone_52 : decode cX9_isDone 52 = .ok (.iload_n 3, 1) := by decide +kernel
theorem dX9_isDone_53 : decode cX9_isDone 53 = .ok (.invokevirtual 127, 3) := by decide +kernel
theorem dX9_isDone_56 : decode cX9_isDone 56 = .ok (.ireturn, 1) := by decide +kernel
theorem dX9_isDone_57 : decode cX9_isDone 57 = .ok (.aload_n 0, 1) := by decide +kernel
theorem dX9_isDone_58 : decode cX9_isDone 58 = .ok (.iload_n 2, 1) := by decide +kernel
theorem dX9_isDone_59 : decode cX9_isDone 59 = .ok (.iload_n 3, 1) := by decide +kernel
theorem dX9_isDone_60 : decode cX9_isDone 60 = .ok (.invokevirtual 130, 3) := by decide +kernel
theorem dX9_isDone_63 : decode cX9_isDone 63 = .ok (.ireturn, 1) := by decide +kernel
theorem dX9_isDone_64 : decode cX9_isDone 64 = .ok (.aload_n 0, 1) := by decide +kernel
theorem dX9_isDone_65 : decode cX9_isDone 65 = .ok (.iload_n 2, 1) := by decide +kernel
theorem dX9_isDone_66 : decode cX9_isDone 66 = .ok (.invokevirtual 133, 3) := by decide +kernel
theorem dX9_isDone_69 : decode cX9_isDone 69 = .ok (.ireturn, 1) := by decide +kernel
theorem dX9_isDone_70 : decode cX9_isDone 70 = .ok (.aload_n 0, 1) := by decide +kernel
theorem dX9_isDone_71 : decode cX9_isDone 71 = .ok (.invokevirtual 137, 3) := by decide +kernel
theorem dX9_isDone_74 : decode cX9_isDone 74 = .ok (.sipush 900, 3) := by decide +kernel
theorem dX9_isDone_77 : decode cX9_isDone 77 = .ok (.if_icmp .lt 5, 3) := by decide +kernel
theorem dX9_isDone_80 : decode cX9_isDone 80 = .ok (.iconst 0, 1) := by decide +kernel
theorem dX9_isDone_81 : decode cX9_isDone 81 = .ok (.ireturn, 1) := by decide +kernel
theorem dX9_isDone_82 : decode cX9_isDone 82 = .ok (.aload_n 0, 1) := by decide +kernel
theorem dX9_isDone_83 : decode cX9_isDone 83 = .ok (.invokevirtual 139, 3) := by decide +kernel
theorem dX9_isDone_86 : decode cX9_isDone 86 = .ok (.pop, 1) := by decide +kernel
theorem dX9_isDone_87 : decode cX9_isDone 87 = .ok (.iconst 1, 1) := by decide +kernel
theorem dX9_isDone_88 : decode cX9_isDone 88 = .ok (.ireturn, 1) := by decide +kernel
theorem dX10_init_0 : decode cX10_init 0 = .ok (.aload_n 0, 1) := by decide +kernel
theorem dX10_init_1 : decode cX10_init 1 = .ok (.invokespecial 3, 3) := by decide +kernel
theorem dX10_init_4 : decode cX10_init 4 = .ok (.aload_n 0, 1) := by decide +kernel
theorem dX10_init_5 : decode cX10_init 5 = .ok (.sipush 600, 3) := by decide +kernel
theorem dX10_init_8 : decode cX10_init 8 = .ok (.newarray .int, 2) := by decide +kernel
theorem dX10_init_10 : decode cX10_init 10 = .ok (.putfield 9, 3) := by decide +kernel
theorem dX10_init_13 : decode cX10_init 13 = .ok (.aload_n 0, 1) := by decide +kernel
theorem dX10_init_14 : decode cX10_init 14 = .ok (.iconst (-1), 1) := by decide +kernel
theorem dX10_init_15 : decode cX10_init 15 = .ok (.putfield 15, 3) := by decide +kernel
theorem dX10_init_18 : decode cX10_init 18 = .ok (.return_, 1) := by decide +kernel
theorem dX10_bytesOnIt_0 : decode cX10_bytesOnIt 0 = .ok (.aload_n 0, 1) := by decide +kernel
theorem dX10_bytesOnIt_1 : decode cX10_bytesOnIt 1 = .ok (.getfield 19, 3) := by decide +kernel
theorem dX10_bytesOnIt_4 : decode cX10_bytesOnIt 4 = .ok (.ireturn, 1) := by decide +kernel
theorem dX10_hasRoomForFive_0 : decode cX10_hasRoomForFive 0 = .ok (.aload_n 0, 1) := by decide +kernel
theorem dX10_hasRoomForFive_1 : decode cX10_hasRoomForFive 1 = .ok (.getfield 19, 3) := by decide +kernel
theorem dX10_hasRoomForFive_4 : decode cX10_hasRoomForFive 4 = .ok (.bipush 20, 2) := by decide +kernel
theorem dX10_hasRoomForFive_6 : decode cX10_hasRoomForFive 6 = .ok (.iadd, 1) := by decide +kernel
theorem dX10_hasRoomForFive_7 : decode cX10_hasRoomForFive 7 = .ok (.sipush 600, 3) := by decide +kernel
theorem dX10_hasRoomForFive_10 : decode cX10_hasRoomForFive 10 = .ok (.if_icmp .gt 7, 3) := by decide +kernel
theorem dX10_hasRoomForFive_13 : decode cX10_hasRoomForFive 13 = .ok (.iconst 1, 1) := by decide +kernel
theorem dX10_hasRoomForFive_14 : decode cX10_hasRoomForFive 14 = .ok (.goto 4, 3) := by decide +kernel
theorem dX10_hasRoomForFive_17 : decode cX10_hasRoomForFive 17 = .ok (.iconst 0, 1) := by decide +kernel
theorem dX10_hasRoomForFive_18 : decode cX10_hasRoomForFive 18 = .ok (.ireturn, 1) := by decide +kernel
theorem dX10_put_0 : decode cX10_put 0 = .ok (.bipush 24, 2) := by decide +kernel
theorem dX10_put_2 : decode cX10_put 2 = .ok (.istore_n 2, 1) := by decide +kernel
theorem dX10_put_3 : decode cX10_put 3 = .ok (.iload_n 2, 1) := by decide +kernel
theorem dX10_put_4 : decode cX10_put 4 = .ok (.ifCond .lt 45, 3) := by decide +kernel
theorem dX10_put_7 : decode cX10_put 7 = .ok (.aload_n 0, 1) := by decide +kernel
theorem dX10_put_8 : decode cX10_put 8 = .ok (.getfield 19, 3) := by decide +kernel
theorem dX10_put_11 : decode cX10_put 11 = .ok (.sipush 600, 3) := by decide +kernel
theorem dX10_put_14 : decode cX10_put 14 = .ok (.if_icmp .ge 35, 3) := by decide +kernel
theorem dX10_put_17 : decode cX10_put 17 = .ok (.aload_n 0, 1) := by decide +kernel
theorem dX10_put_18 : decode cX10_put 18 = .ok (.getfield 9, 3) := by decide +kernel
theorem dX10_put_21 : decode cX10_put 21 = .ok (.aload_n 0, 1) := by decide +kernel
theorem dX10_put_22 : decode cX10_put 22 = .ok (.getfield 19, 3) := by decide +kernel
theorem dX10_put_25 : decode cX10_put 25 = .ok (.iload_n 1, 1) := by decide +kernel
theorem dX10_put_26 : decode cX10_put 26 = .ok (.iload_n 2, 1) := by decide +kernel
theorem dX10_put_27 : decode cX10_put 27 = .ok (.ishr, 1) := by decide +kernel
theorem dX10_put_28 : decode cX10_put 28 = .ok (.sipush 255, 3) := by decide +kernel
theorem dX10_put_31 : decode cX10_put 31 = .ok (.iand, 1) := by decide +kernel
theorem dX10_put_32 : decode cX10_put 32 = .ok (.iastore, 1) := by decide +kernel
theorem dX10_put_33 : decode cX10_put 33 = .ok (.aload_n 0, 1) := by decide +kernel
theorem dX10_put_34 : decode cX10_put 34 = .ok (.dup, 1) := by decide +kernel
theorem dX10_put_35 : decode cX10_put 35 = .ok (.getfield 19, 3) := by decide +kernel
theorem dX10_put_38 : decode cX10_put 38 = .ok (.iconst 1, 1) := by decide +kernel
theorem dX10_put_39 : decode cX10_put 39 = .ok (.iadd, 1) := by decide +kernel
theorem dX10_put_40 : decode cX10_put 40 = .ok (.putfield 19, 3) := by decide +kernel
theorem dX10_put_43 : decode cX10_put 43 = .ok (.iinc 2 (-8), 3) := by decide +kernel
theorem dX10_put_46 : decode cX10_put 46 = .ok (.goto (-43), 3) := by decide +kernel
theorem dX10_put_49 : decode cX10_put 49 = .ok (.return_, 1) := by decide +kernel
theorem dX10_open_0 : decode cX10_open 0 = .ok (.aload_n 0, 1) := by decide +kernel
theorem dX10_open_1 : decode cX10_open 1 = .ok (.iload_n 1, 1) := by decide +kernel
theorem dX10_open_2 : decode cX10_open 2 = .ok (.aload_n 0, 1) := by decide +kernel
theorem dX10_open_3 : decode cX10_open 3 = .ok (.getfield 19, 3) := by decide +kernel
theorem dX10_open_6 : decode cX10_open 6 = .ok (.invokestatic 22, 3) := by decide +kernel
theorem dX10_open_9 : decode cX10_open 9 = .ok (.putfield 28, 3) := by decide +kernel
theorem dX10_open_12 : decode cX10_open 12 = .ok (.aload_n 0, 1) := by decide +kernel
theorem dX10_open_13 : decode cX10_open 13 = .ok (.iconst 0, 1) := by decide +kernel
theorem dX10_open_14 : decode cX10_open 14 = .ok (.putfield 19, 3) := by decide +kernel
theorem dX10_open_17 : decode cX10_open 17 = .ok (.aload_n 0, 1) := by decide +kernel
theorem dX10_open_18 : decode cX10_open 18 = .ok (.iconst 0, 1) := by decide +kernel
theorem dX10_open_19 : decode cX10_open 19 = .ok (.putfield 31, 3) := by decide +kernel
theorem dX10_open_22 : decode cX10_open 22 = .ok (.aload_n 0, 1) := by decide +kernel
theorem dX10_open_23 : decode cX10_open 23 = .ok (.iconst (-1), 1) := by decide +kernel
theorem dX10_open_24 : decode cX10_open 24 = .ok (.putfield 15, 3) := by decide +kernel
theorem dX10_open_27 : decode cX10_open 27 = .ok (.aload_n 0, 1) := by decide +kernel
theorem dX10_open_28 : decode cX10_open 28 = .ok (.iconst 0, 1) := by decide +kernel
theorem dX10_open_29 : decode cX10_open 29 = .ok (.invokevirtual 34, 3) := by decide +kernel
theorem dX10_open_32 : decode cX10_open 32 = .ok (.return_, 1) := by decide +kernel
theorem dX10_failed_0 : decode cX10_failed 0 = .ok (.aload_n 0, 1) := by decide +kernel
theorem dX10_failed_1 : decode cX10_failed 1 = .ok (.getfield 31, 3) := by decide +kernel
theorem dX10_failed_4 : decode cX10_failed 4 = .ok (.ifCond .eq 7, 3) := by decide +kernel
theorem dX10_failed_7 : decode cX10_failed 7 = .ok (.iconst 1, 1) := by decide +kernel
theorem dX10_failed_8 : decode cX10_failed 8 = .ok (.goto 4, 3) := by decide +kernel
theorem dX10_failed_11 : decode cX10_failed 11 = .ok (.iconst 0, 1) := by decide +kernel
theorem dX10_failed_12 : decode cX10_failed 12 = .ok (.ireturn, 1) := by decide +kernel
theorem dX10_faultAnswer_0 : decode cX10_faultAnswer 0 = .ok (.aload_n 0, 1) := by decide +kernel
theorem dX10_faultAnswer_1 : decode cX10_faultAnswer 1 = .ok (.getfield 31, 3) := by decide +kernel
theorem dX10_faultAnswer_4 : decode cX10_faultAnswer 4 = .ok (.bipush 10, 2) := by decide +kernel
theorem dX10_faultAnswer_6 : decode cX10_faultAnswer 6 = .ok (.isub, 1) := by decide +kernel
theorem dX10_faultAnswer_7 : decode cX10_faultAnswer 7 = .ok (.ireturn, 1) := by decide +kernel
theorem dX10_faultPlace_0 : decode cX10_faultPlace 0 = .ok (.aload_n 0, 1) := by decide +kernel
theorem dX10_faultPlace_1 : decode cX10_faultPlace 1 = .ok (.getfield 15, 3) := by decide +kernel
theorem dX10_faultPlace_4 : decode cX10_faultPlace 4 = .ok (.ireturn, 1) := by decide +kernel
theorem dX10_fail_0 : decode cX10_fail 0 = .ok (.aload_n 0, 1) := by decide +kernel
theorem dX10_fail_1 : decode cX10_fail 1 = .ok (.getfield 31, 3) := by decide +kernel
theorem dX10_fail_4 : decode cX10_fail 4 = .ok (.ifCond .ne 13, 3) := by decide +kernel
theorem dX10_fail_7 : decode cX10_fail 7 = .ok (.aload_n 0, 1) := by decide +kernel
theorem dX10_fail_8 : decode cX10_fail 8 = .ok (.iload_n 1, 1) := by decide +kernel
theorem dX10_fail_9 : decode cX10_fail 9 = .ok (.putfield 31, 3) := by decide +kernel
theorem dX10_fail_12 : decode cX10_fail 12 = .ok (.aload_n 0, 1) := by decide +kernel
theorem dX10_fail_13 : decode cX10_fail 13 = .ok (.iload_n 2, 1) := by decide +kernel
theorem dX10_fail_14 : decode cX10_fail 14 = .ok (.putfield 15, 3) := by decide +kernel
theorem dX10_fail_17 : decode cX10_fail 17 = .ok (.return_, 1) := by decide +kernel
theorem dX10_next_0 : decode cX10_next 0 = .ok (.aload_n 0, 1) := by decide +kernel
theorem dX10_next_1 : decode cX10_next 1 = .ok (.getfield 38, 3) := by decide +kernel
theorem dX10_next_4 : decode cX10_next 4 = .ok (.ireturn, 1) := by decide +kernel
theorem dX10_isOver_0 : decode cX10_isOver 0 = .ok (.aload_n 0, 1) := by decide +kernel
theorem dX10_isOver_1 : decode cX10_isOver 1 = .ok (.getfield 31, 3) := by decide +kernel
theorem dX10_isOver_4 : decode cX10_isOver 4 = .ok (.ifCond .ne 14, 3) := by decide +kernel
theorem dX10_isOver_7 : decode cX10_isOver 7 = .ok (.aload_n 0, 1) := by decide +kernel
theorem dX10_isOver_8 : decode cX10_isOver 8 = .ok (.getfield 38, 3) := by decide +kernel
theorem dX10_isOver_11 : decode cX10_isOver 11 = .ok (.aload_n 0, 1) := by decide +kernel
theorem dX10_isOver_12 : decode cX10_isOver 12 = .ok (.getfield 28, 3) := by decide +kernel
theorem dX10_isOver_15 : decode cX10_isOver 15 = .ok (.if_icmp .lt 7, 3) := by decide +kernel
theorem dX10_isOver_18 : decode cX10_isOver 18 = .ok (.iconst 1, 1) := by decide +kernel
theorem dX10_isOver_19 : decode cX10_isOver 19 = .ok (.goto 4, 3) := by decide +kernel
theorem dX10_isOver_22 : decode cX10_isOver 22 = .ok (.iconst 0, 1) := by decide +kernel
theorem dX10_isOver_23 : decode cX10_isOver 23 = .ok (.ireturn, 1) := by decide +kernel
theorem dX10_peek_0 : decode cX10_peek 0 = .ok (.aload_n 0, 1) := by decide +kernel
theorem dX10_peek_1 : decode cX10_peek 1 = .ok (.invokevirtual 41, 3) := by decide +kernel
theorem dX10_peek_4 : decode cX10_peek 4 = .ok (.ifCond .eq 7, 3) := by decide +kernel
theorem dX10_peek_7 : decode cX10_peek 7 = .ok (.iconst (-1), 1) := by decide +kernel
theorem dX10_peek_8 : decode cX10_peek 8 = .ok (.goto 12, 3) := by decide +kernel
theorem dX10_peek_11 : decode cX10_peek 11 = .ok (.aload_n 0, 1) := by decide +kernel
theorem dX10_peek_12 : decode cX10_peek 12 = .ok (.getfield 9, 3) := by decide +kernel
theorem dX10_peek_15 : decode cX10_peek 15 = .ok (.aload_n 0, 1) := by decide +kernel
theorem dX10_peek_16 : decode cX10_peek 16 = .ok (.getfield 38, 3) := by decide +kernel
theorem dX10_peek_19 : decode cX10_peek 19 = .ok (.iaload, 1) := by decide +kernel
theorem dX10_peek_20 : decode cX10_peek 20 = .ok (.ireturn, 1) := by decide +kernel
theorem dX10_takesSign_0 : decode cX10_takesSign 0 = .ok (.aload_n 0, 1) := by decide +kernel
theorem dX10_takesSign_1 : decode cX10_takesSign 1 = .ok (.invokevirtual 45, 3) := by decide +kernel
theorem dX10_takesSign_4 : decode cX10_takesSign 4 = .ok (.iload_n 1, 1) := by decide +kernel
theorem dX10_takesSign_5 : decode cX10_takesSign 5 = .ok (.if_icmp .eq 5, 3) := by decide +kernel
theorem dX10_takesSign_8 : decode cX10_takesSign 8 = .ok (.iconst 0, 1) := by decide +kernel
theorem dX10_takesSign_9 : decode cX10_takesSign 9 = .ok (.ireturn, 1) := by decide +kernel
theorem dX10_takesSign_10 : decode cX10_takesSign 10 = .ok (.aload_n 0, 1) := by decide +kernel
theorem dX10_takesSign_11 : decode cX10_takesSign 11 = .ok (.aload_n 0, 1) := by decide +kernel
theorem dX10_takesSign_12 : decode cX10_takesSign 12 = .ok (.getfield 38, 3) := by decide +kernel
theorem dX10_takesSign_15 : decode cX10_takesSign 15 = .ok (.iconst 1, 1) := by decide +kernel
theorem dX10_takesSign_16 : decode cX10_takesSign 16 = .ok (.iadd, 1) := by decide +kernel
theorem dX10_takesSign_17 : decode cX10_takesSign 17 = .ok (.invokevirtual 34, 3) := by decide +kernel
theorem dX10_takesSign_20 : decode cX10_takesSign 20 = .ok (.iconst 1, 1) := by decide +kernel
theorem dX10_takesSign_21 : decode cX10_takesSign 21 = .ok (.ireturn, 1) := by decide +kernel
theorem dX10_expect_0 : decode cX10_expect 0 = .ok (.aload_n 0, 1) := by decide +kernel
theorem dX10_expect_1 : decode cX10_expect 1 = .ok (.iload_n 1, 1) := by decide +kernel
theorem dX10_expect_2 : decode cX10_expect 2 = .ok (.invokevirtual 49, 3) := by decide +kernel
theorem dX10_expect_5 : decode cX10_expect 5 = .ok (.ifCond .ne 12, 3) := by decide +kernel
theorem dX10_expect_8 : decode cX10_expect 8 = .ok (.aload_n 0, 1) := by decide +kernel
theorem dX10_expect_9 : decode cX10_expect 9 = .ok (.iconst 1, 1) := by decide +kernel
theorem dX10_expect_10 : decode cX10_expect 10 = .ok (.aload_n 0, 1) := by decide +kernel
theorem dX10_expect_11 : decode cX10_expect 11 = .ok (.getfield 38, 3) := by decide +kernel
theorem dX10_expect_14 : decode cX10_expect 14 = .ok (.invokevirtual 53, 3) := by decide +kernel
theorem dX10_expect_17 : decode cX10_expect 17 = .ok (.return_, 1) := by decide +kernel
theorem dX10_numberIsNext_0 : decode cX10_numberIsNext 0 = .ok (.aload_n 0, 1) := by decide +kernel
theorem dX10_numberIsNext_1 : decode cX10_numberIsNext 1 = .ok (.aload_n 0, 1) := by decide +kernel
theorem dX10_numberIsNext_2 : decode cX10_numberIsNext 2 = .ok (.getfield 38, 3) := by decide +kernel
theorem dX10_numberIsNext_5 : decode cX10_numberIsNext 5 = .ok (.invokevirtual 57, 3) := by decide +kernel
theorem dX10_numberIsNext_8 : decode cX10_numberIsNext 8 = .ok (.ireturn, 1) := by decide +kernel
theorem dX10_number_0 : decode cX10_number 0 = .ok (.aload_n 0, 1) := by decide +kernel
theorem dX10_number_1 : decode cX10_number 1 = .ok (.aload_n 0, 1) := by decide +kernel
theorem dX10_number_2 : decode cX10_number 2 = .ok (.getfield 38, 3) := by decide +kernel
theorem dX10_number_5 : decode cX10_number 5 = .ok (.putfield 61, 3) := by decide +kernel
theorem dX10_number_8 : decode cX10_number 8 = .ok (.iconst 0, 1) := by decide +kernel
theorem dX10_number_9 : decode cX10_number 9 = .ok (.istore_n 3, 1) := by decide +kernel
theorem dX10_number_10 : decode cX10_number 10 = .ok (.aload_n 0, 1) := by decide +kernel
theorem dX10_number_11 : decode cX10_number 11 = .ok (.getfield 38, 3) := by decide +kernel
theorem dX10_number_14 : decode cX10_number 14 = .ok (.istore 4, 2) := by decide +kernel
theorem dX10_number_16 : decode cX10_number 16 = .ok (.iload 4, 2) := by decide +kernel
theorem dX10_number_18 : decode cX10_number 18 = .ok (.aload_n 0, 1) := by decide +kernel
theorem dX10_number_19 : decode cX10_number 19 = .ok (.getfield 28, 3) := by decide +kernel
theorem dX10_number_22 : decode cX10_number 22 = .ok (.if_icmp .ge 39, 3) := by decide +kernel
theorem dX10_number_25 : decode cX10_number 25 = .ok (.aload_n 0, 1) := by decide +kernel
theorem dX10_number_26 : decode cX10_number 26 = .ok (.iload 4, 2) := by decide +kernel
theorem dX10_number_28 : decode cX10_number 28 = .ok (.invokevirtual 57, 3) := by decide +kernel
theorem dX10_number_31 : decode cX10_number 31 = .ok (.ifCond .eq 30, 3) := by decide +kernel
theorem dX10_number_34 : decode cX10_number 34 = .ok (.iload_n 3, 1) := by decide +kernel
theorem dX10_number_35 : decode cX10_number 35 = .ok (.bipush 10, 2) := by decide +kernel
theorem dX10_number_37 : decode cX10_number 37 = .ok (.imul, 1) := by decide +kernel
theorem dX10_number_38 : decode cX10_number 38 = .ok (.aload_n 0, 1) := by decide +kernel
theorem dX10_number_39 : decode cX10_number 39 = .ok (.getfield 9, 3) := by decide +kernel
theorem dX10_number_42 : decode cX10_number 42 = .ok (.iload 4, 2) := by decide +kernel
theorem dX10_number_44 : decode cX10_number 44 = .ok (.iaload, 1) := by decide +kernel
theorem dX10_number_45 : decode cX10_number 45 = .ok (.iadd, 1) := by decide +kernel
theorem dX10_number_46 : decode cX10_number 46 = .ok (.bipush 48, 2) := by decide +kernel
theorem dX10_number_48 : decode cX10_number 48 = .ok (.isub, 1) := by decide +kernel
theorem dX10_number_49 : decode cX10_number 49 = .ok (.ldc 64, 2) := by decide +kernel
theorem dX10_number_51 : decode cX10_number 51 = .ok (.invokestatic 22, 3) := by decide +kernel
theorem dX10_number_54 : decode cX10_number 54 = .ok (.istore_n 3, 1) := by decide +kernel
theorem dX10_number_55 : decode cX10_number 55 = .ok (.iinc 4 1, 3) := by decide +kernel
theorem dX10_number_58 : decode cX10_number 58 = .ok (.goto (-42), 3) := by decide +kernel
theorem dX10_number_61 : decode cX10_number 61 = .ok (.iload 4, 2) := by decide +kernel
theorem dX10_number_63 : decode cX10_number 63 = .ok (.aload_n 0, 1) := by decide +kernel
theorem dX10_number_64 : decode cX10_number 64 = .ok (.getfield 61, 3) := by decide +kernel
theorem dX10_number_67 : decode cX10_number 67 = .ok (.if_icmp .ne 15, 3) := by decide +kernel
theorem dX10_number_70 : decode cX10_number 70 = .ok (.aload_n 0, 1) := by decide +kernel
theorem dX10_number_71 : decode cX10_number 71 = .ok (.iconst 1, 1) := by decide +kernel
theorem dX10_number_72 : decode cX10_number 72 = .ok (.aload_n 0, 1) := by decide +kernel
theorem dX10_number_73 : decode cX10_number 73 = .ok (.getfield 61, 3) := by decide +kernel
theorem dX10_number_76 : decode cX10_number 76 = .ok (.invokevirtual 53, 3) := by decide +kernel
theorem dX10_number_79 : decode cX10_number 79 = .ok (.goto 22, 3) := by decide +kernel
theorem dX10_number_82 : decode cX10_number 82 = .ok (.iload_n 3, 1) := by decide +kernel
theorem dX10_number_83 : decode cX10_number 83 = .ok (.iload_n 1, 1) := by decide +kernel
theorem dX10_number_84 : decode cX10_number 84 = .ok (.if_icmp .lt 8, 3) := by decide +kernel
theorem dX10_number_87 : decode cX10_number 87 = .ok (.iload_n 3, 1) := by decide +kernel
theorem dX10_number_88 : decode cX10_number 88 = .ok (.iload_n 2, 1) := by decide +kernel
theorem dX10_number_89 : decode cX10_number 89 = .ok (.if_icmp .le 12, 3) := by decide +kernel
theorem dX10_number_92 : decode cX10_number 92 = .ok (.aload_n 0, 1) := by decide +kernel
theorem dX10_number_93 : decode cX10_number 93 = .ok (.iconst 2, 1) := by decide +kernel
theorem dX10_number_94 : decode cX10_number 94 = .ok (.aload_n 0, 1) := by decide +kernel
theorem dX10_number_95 : decode cX10_number 95 = .ok (.getfield 61, 3) := by decide +kernel
theorem dX10_number_98 : decode cX10_number 98 = .ok (.invokevirtual 53, 3) := by decide +kernel
theorem dX10_number_101 : decode cX10_number 101 = .ok (.aload_n 0, 1) := by decide +kernel
theorem dX10_number_102 : decode cX10_number 102 = .ok (.iload 4, 2) := by decide +kernel
theorem dX10_number_104 : decode cX10_number 104 = .ok (.invokevirtual 34, 3) := by decide +kernel
theorem dX10_number_107 : decode cX10_number 107 = .ok (.iload_n 3, 1) := by decide +kernel
theorem dX10_number_108 : decode cX10_number 108 = .ok (.ireturn, 1) := by decide +kernel
theorem dX10_failLatestNumber_0 : decode cX10_failLatestNumber 0 = .ok (.aload_n 0, 1) := by decide +kernel
theorem dX10_failLatestNumber_1 : decode cX10_failLatestNumber 1 = .ok (.iconst 2, 1) := by decide +kernel
theorem dX10_failLatestNumber_2 : decode cX10_failLatestNumber 2 = .ok (.aload_n 0, 1) := by decide +kernel
theorem dX10_failLatestNumber_3 : decode cX10_failLatestNumber 3 = .ok (.getfield 61, 3) := by decide +kernel
theorem dX10_failLatestNumber_6 : decode cX10_failLatestNumber 6 = .ok (.invokevirtual 53, 3) := by decide +kernel
theorem dX10_failLatestNumber_9 : decode cX10_failLatestNumber 9 = .ok (.return_, 1) := by decide +kernel
theorem dX10_takesWord_0 : decode cX10_takesWord 0 = .ok (.aload_n 0, 1) := by decide +kernel
theorem dX10_takesWord_1 : decode cX10_takesWord 1 = .ok (.getfield 38, 3) := by decide +kernel
theorem dX10_takesWord_4 : decode cX10_takesWord 4 = .ok (.aload_n 1, 1) := by decide +kernel
theorem dX10_takesWord_5 : decode cX10_takesWord 5 = .ok (.invokevirtual 65, 3) := by decide +kernel
theorem dX10_takesWord_8 : decode cX10_takesWord 8 = .ok (.iadd, 1) := by decide +kernel
theorem dX10_takesWord_9 : decode cX10_takesWord 9 = .ok (.istore_n 2, 1) := by decide +kernel
theorem dX10_takesWord_10 : decode cX10_takesWord 10 = .ok (.aload_n 0, 1) := by decide +kernel
theorem dX10_takesWord_11 : decode cX10_takesWord 11 = .ok (.getfield 31, 3) := by decide +kernel
theorem dX10_takesWord_14 : decode cX10_takesWord 14 = .ok (.ifCond .ne 19, 3) := by decide +kernel
theorem dX10_takesWord_17 : decode cX10_takesWord 17 = .ok (.iload_n 2, 1) := by decide +kernel
theorem dX10_takesWord_18 : decode cX10_takesWord 18 = .ok (.aload_n 0, 1) := by decide +kernel
theorem dX10_takesWord_19 : decode cX10_takesWord 19 = .ok (.getfield 28, 3) := by decide +kernel
theorem dX10_takesWord_22 : decode cX10_takesWord 22 = .ok (.if_icmp .gt 11, 3) := by decide +kernel
theorem dX10_takesWord_25 : decode cX10_takesWord 25 = .ok (.aload_n 0, 1) := by decide +kernel
theorem dX10_takesWord_26 : decode cX10_takesWord 26 = .ok (.iload_n 2, 1) := by decide +kernel
theorem dX10_takesWord_27 : decode cX10_takesWord 27 = .ok (.invokevirtual 69, 3) := by decide +kernel
theorem dX10_takesWord_30 : decode cX10_takesWord 30 = .ok (.ifCond .eq 5, 3) := by decide +kernel
theorem dX10_takesWord_33 : decode cX10_takesWord 33 = .ok (.iconst 0, 1) := by decide +kernel
theorem dX10_takesWord_34 : decode cX10_takesWord 34 = .ok (.ireturn, 1) := by decide +kernel
theorem dX10_takesWord_35 : decode cX10_takesWord 35 = .ok (.iconst 0, 1) := by decide +kernel
theorem dX10_takesWord_36 : decode cX10_takesWord 36 = .ok (.istore_n 3, 1) := by decide +kernel
theorem dX10_takesWord_37 : decode cX10_takesWord 37 = .ok (.iload_n 3, 1) := by decide +kernel
theorem dX10_takesWord_38 : decode cX10_takesWord 38 = .ok (.aload_n 1, 1) := by decide +kernel
theorem dX10_takesWord_39 : decode cX10_takesWord 39 = .ok (.invokevirtual 65, 3) := by decide +kernel
theorem dX10_takesWord_42 : decode cX10_takesWord 42 = .ok (.if_icmp .ge 30, 3) := by decide +kernel
theorem dX10_takesWord_45 : decode cX10_takesWord 45 = .ok (.aload_n 0, 1) := by decide +kernel
theorem dX10_takesWord_46 : decode cX10_takesWord 46 = .ok (.getfield 9, 3) := by decide +kernel
theorem dX10_takesWord_49 : decode cX10_takesWord 49 = .ok (.aload_n 0, 1) := by decide +kernel
theorem dX10_takesWord_50 : decode cX10_takesWord 50 = .ok (.getfield 38, 3) := by decide +kernel
theorem dX10_takesWord_53 : decode cX10_takesWord 53 = .ok (.iload_n 3, 1) := by decide +kernel
theorem dX10_takesWord_54 : decode cX10_takesWord 54 = .ok (.iadd, 1) := by decide +kernel
theorem dX10_takesWord_55 : decode cX10_takesWord 55 = .ok (.iaload, 1) := by decide +kernel
theorem dX10_takesWord_56 : decode cX10_takesWord 56 = .ok (.aload_n 1, 1) := by decide +kernel
theorem dX10_takesWord_57 : decode cX10_takesWord 57 = .ok (.iload_n 3, 1) := by decide +kernel
theorem dX10_takesWord_58 : decode cX10_takesWord 58 = .ok (.invokevirtual 72, 3) := by decide +kernel
theorem dX10_takesWord_61 : decode cX10_takesWord 61 = .ok (.if_icmp .eq 5, 3) := by decide +kernel
theorem dX10_takesWord_64 : decode cX10_takesWord 64 = .ok (.iconst 0, 1) := by decide +kernel
theorem dX10_takesWord_65 : decode cX10_takesWord 65 = .ok (.ireturn, 1) := by decide +kernel
theorem dX10_takesWord_66 : decode cX10_takesWord 66 = .ok (.iinc 3 1, 3) := by decide +kernel
theorem dX10_takesWord_69 : decode cX10_takesWord 69 = .ok (.goto (-32), 3) := by decide +kernel
theorem dX10_takesWord_72 : decode cX10_takesWord 72 = .ok (.aload_n 0, 1) := by decide +kernel
theorem dX10_takesWord_73 : decode cX10_takesWord 73 = .ok (.iload_n 2, 1) := by decide +kernel
theorem dX10_takesWord_74 : decode cX10_takesWord 74 = .ok (.invokevirtual 34, 3) := by decide +kernel
theorem dX10_takesWord_77 : decode cX10_takesWord 77 = .ok (.iconst 1, 1) := by decide +kernel
theorem dX10_takesWord_78 : decode cX10_takesWord 78 = .ok (.ireturn, 1) := by decide +kernel
theorem dX10_moveTo_0 : decode cX10_moveTo 0 = .ok (.aload_n 0, 1) := by decide +kernel
theorem dX10_moveTo_1 : decode cX10_moveTo 1 = .ok (.iload_n 1, 1) := by decide +kernel
theorem dX10_moveTo_2 : decode cX10_moveTo 2 = .ok (.putfield 38, 3) := by decide +kernel
theorem dX10_moveTo_5 : decode cX10_moveTo 5 = .ok (.aload_n 0, 1) := by decide +kernel
theorem dX10_moveTo_6 : decode cX10_moveTo 6 = .ok (.getfield 38, 3) := by decide +kernel
theorem dX10_moveTo_9 : decode cX10_moveTo 9 = .ok (.aload_n 0, 1) := by decide +kernel
theorem dX10_moveTo_10 : decode cX10_moveTo 10 = .ok (.getfield 28, 3) := by decide +kernel
theorem dX10_moveTo_13 : decode cX10_moveTo 13 = .ok (.if_icmp .ge 30, 3) := by decide +kernel
theorem dX10_moveTo_16 : decode cX10_moveTo 16 = .ok (.aload_n 0, 1) := by decide +kernel
theorem dX10_moveTo_17 : decode cX10_moveTo 17 = .ok (.getfield 9, 3) := by decide +kernel
theorem dX10_moveTo_20 : decode cX10_moveTo 20 = .ok (.aload_n 0, 1) := by decide +kernel
theorem dX10_moveTo_21 : decode cX10_moveTo 21 = .ok (.getfield 38, 3) := by decide +kernel
theorem dX10_moveTo_24 : decode cX10_moveTo 24 = .ok (.iaload, 1) := by decide +kernel
theorem dX10_moveTo_25 : decode cX10_moveTo 25 = .ok (.bipush 32, 2) := by decide +kernel
theorem dX10_moveTo_27 : decode cX10_moveTo 27 = .ok (.if_icmp .ne 16, 3) := by decide +kernel
theorem dX10_moveTo_30 : decode cX10_moveTo 30 = .ok (.aload_n 0, 1) := by decide +kernel
theorem dX10_moveTo_31 : decode cX10_moveTo 31 = .ok (.dup, 1) := by decide +kernel
theorem dX10_moveTo_32 : decode cX10_moveTo 32 = .ok (.getfield 38, 3) := by decide +kernel
theorem dX10_moveTo_35 : decode cX10_moveTo 35 = .ok (.iconst 1, 1) := by decide +kernel
theorem dX10_moveTo_36 : decode cX10_moveTo 36 = .ok (.iadd, 1) := by decide +kernel
theorem dX10_moveTo_37 : decode cX10_moveTo 37 = .ok (.putfield 38, 3) := by decide +kernel
theorem dX10_moveTo_40 : decode cX10_moveTo 40 = .ok (.goto (-35), 3) := by decide +kernel
theorem dX10_moveTo_43 : decode cX10_moveTo 43 = .ok (.return_, 1) := by decide +kernel
theorem dX10_isDigit_0 : decode cX10_isDigit 0 = .ok (.iload_n 1, 1) := by decide +kernel
theorem dX10_isDigit_1 : decode cX10_isDigit 1 = .ok (.aload_n 0, 1) := by decide +kernel
theorem dX10_isDigit_2 : decode cX10_isDigit 2 = .ok (.getfield 28, 3) := by decide +kernel
theorem dX10_isDigit_5 : decode cX10_isDigit 5 = .ok (.if_icmp .ge 29, 3) := by decide +kernel
theorem dX10_isDigit_8 : decode cX10_isDigit 8 = .ok (.aload_n 0, 1) := by decide +kernel
theorem dX10_isDigit_9 : decode cX10_isDigit 9 = .ok (.getfield 9, 3) := by decide +kernel
theorem dX10_isDigit_12 : decode cX10_isDigit 12 = .ok (.iload_n 1, 1) := by decide +kernel
theorem dX10_isDigit_13 : decode cX10_isDigit 13 = .ok (.iaload, 1) := by decide +kernel
theorem dX10_isDigit_14 : decode cX10_isDigit 14 = .ok (.bipush 48, 2) := by decide +kernel
theorem dX10_isDigit_16 : decode cX10_isDigit 16 = .ok (.if_icmp .lt 18, 3) := by decide +kernel
theorem dX10_isDigit_19 : decode cX10_isDigit 19 = .ok (.aload_n 0, 1) := by decide +kernel
theorem dX10_isDigit_20 : decode cX10_isDigit 20 = .ok (.getfield 9, 3) := by decide +kernel
theorem dX10_isDigit_23 : decode cX10_isDigit 23 = .ok (.iload_n 1, 1) := by decide +kernel
theorem dX10_isDigit_24 : decode cX10_isDigit 24 = .ok (.iaload, 1) := by decide +kernel
theorem dX10_isDigit_25 : decode cX10_isDigit 25 = .ok (.bipush 57, 2) := by decide +kernel
theorem dX10_isDigit_27 : decode cX10_isDigit 27 = .ok (.if_icmp .gt 7, 3) := by decide +kernel
theorem dX10_isDigit_30 : decode cX10_isDigit 30 = .ok (.iconst 1, 1) := by decide +kernel
theorem dX10_isDigit_31 : decode cX10_isDigit 31 = .ok (.goto 4, 3) := by decide +kernel
theorem dX10_isDigit_34 : decode cX10_isDigit 34 = .ok (.iconst 0, 1) := by decide +kernel
theorem dX10_isDigit_35 : decode cX10_isDigit 35 = .ok (.ireturn, 1) := by decide +kernel
theorem dX10_isSmallLetter_0 : decode cX10_isSmallLetter 0 = .ok (.iload_n 1, 1) := by decide +kernel
theorem dX10_isSmallLetter_1 : decode cX10_isSmallLetter 1 = .ok (.aload_n 0, 1) := by decide +kernel
theorem dX10_isSmallLetter_2 : decode cX10_isSmallLetter 2 = .ok (.getfield 28, 3) := by decide +kernel
theorem dX10_isSmallLetter_5 : decode cX10_isSmallLetter 5 = .ok (.if_icmp .ge 29, 3) := by decide +kernel
theorem dX10_isSmallLetter_8 : decode cX10_isSmallLetter 8 = .ok (.aload_n 0, 1) := by decide +kernel
theorem dX10_isSmallLetter_9 : decode cX10_isSmallLetter 9 = .ok (.getfield 9, 3) := by decide +kernel
theorem dX10_isSmallLetter_12 : decode cX10_isSmallLetter 12 = .ok (.iload_n 1, 1) := by decide +kernel
theorem dX10_isSmallLetter_13 : decode cX10_isSmallLetter 13 = .ok (.iaload, 1) := by decide +kernel
theorem dX10_isSmallLetter_14 : decode cX10_isSmallLetter 14 = .ok (.bipush 97, 2) := by decide +kernel
theorem dX10_isSmallLetter_16 : decode cX10_isSmallLetter 16 = .ok (.if_icmp .lt 18, 3) := by decide +kernel
theorem dX10_isSmallLetter_19 : decode cX10_isSmallLetter 19 = .ok (.aload_n 0, 1) := by decide +kernel
theorem dX10_isSmallLetter_20 : decode cX10_isSmallLetter 20 = .ok (.getfield 9, 3) := by decide +kernel
theorem dX10_isSmallLetter_23 : decode cX10_isSmallLetter 23 = .ok (.iload_n 1, 1) := by decide +kernel
theorem dX10_isSmallLetter_24 : decode cX10_isSmallLetter 24 = .ok (.iaload, 1) := by decide +kernel
theorem dX10_isSmallLetter_25 : decode cX10_isSmallLetter 25 = .ok (.bipush 122, 2) := by decide +kernel
theorem dX10_isSmallLetter_27 : decode cX10_isSmallLetter 27 = .ok (.if_icmp .gt 7, 3) := by decide +kernel
theorem dX10_isSmallLetter_30 : decode cX10_isSmallLetter 30 = .ok (.iconst 1, 1) := by decide +kernel
theorem dX10_isSmallLetter_31 : decode cX10_isSmallLetter 31 = .ok (.goto 4, 3) := by decide +kernel
theorem dX10_isSmallLetter_34 : decode cX10_isSmallLetter 34 = .ok (.iconst 0, 1) := by decide +kernel
theorem dX10_isSmallLetter_35 : decode cX10_isSmallLetter 35 = .ok (.ireturn, 1) := by decide +kernel
theorem dX11_init_0 : decode cX11_init 0 = .ok (.aload_n 0, 1) := by decide +kernel
theorem dX11_init_1 : decode cX11_init 1 = .ok (.invokespecial 1, 3) := by decide +kernel
theorem dX11_init_4 : decode cX11_init 4 = .ok (.aload_n 0, 1) := by decide +kernel
theorem dX11_init_5 : decode cX11_init 5 = .ok (.new 7, 3) := by decide +kernel
theorem dX11_init_8 : decode cX11_init 8 = .ok (.dup, 1) := by decide +kernel
theorem dX11_init_9 : decode cX11_init 9 = .ok (.invokespecial 9, 3) := by decide +kernel
theorem dX11_init_12 : decode cX11_init 12 = .ok (.putfield 10, 3) := by decide +kernel
theorem dX11_init_15 : decode cX11_init 15 = .ok (.aload_n 0, 1) := by decide +kernel
theorem dX11_init_16 : decode cX11_init 16 = .ok (.new 16, 3) := by decide +kernel
theorem dX11_init_19 : decode cX11_init 19 = .ok (.dup, 1) := by decide +kernel
theorem dX11_init_20 : decode cX11_init 20 = .ok (.invokespecial 18, 3) := by decide +kernel
theorem dX11_init_23 : decode cX11_init 23 = .ok (.putfield 19, 3) := by decide +kernel
theorem dX11_init_26 : decode cX11_init 26 = .ok (.aload_n 0, 1) := by decide +kernel
theorem dX11_init_27 : decode cX11_init 27 = .ok (.new 16, 3) := by decide +kernel
theorem dX11_init_30 : decode cX11_init 30 = .ok (.dup, 1) := by decide +kernel
theorem dX11_init_31 : decode cX11_init 31 = .ok (.invokespecial 18, 3) := by decide +kernel
theorem dX11_init_34 : decode cX11_init 34 = .ok (.putfield 23, 3) := by decide +kernel
theorem dX11_init_37 : decode cX11_init 37 = .ok (.aload_n 0, 1) := by decide +kernel
theorem dX11_init_38 : decode cX11_init 38 = .ok (.new 26, 3) := by decide +kernel
theorem dX11_init_41 : decode cX11_init 41 = .ok (.dup, 1) := by decide +kernel
theorem dX11_init_42 : decode cX11_init 42 = .ok (.invokespecial 28, 3) := by decide +kernel
theorem dX11_init_45 : decode cX11_init 45 = .ok (.putfield 29, 3) := by decide +kernel
theorem dX11_init_48 : decode cX11_init 48 = .ok (.aload_n 0, 1) := by decide +kernel
theorem dX11_init_49 : decode cX11_init 49 = .ok (.new 33, 3) := by decide +kernel
theorem dX11_init_52 : decode cX11_init 52 = .ok (.dup, 1) := by decide +kernel
theorem dX11_init_53 : decode cX11_init 53 = .ok (.invokespecial 35, 3) := by decide +kernel
theorem dX11_init_56 : decode cX11_init 56 = .ok (.putfield 36, 3) := by decide +kernel
theorem dX11_init_59 : decode cX11_init 59 = .ok (.aload_n 0, 1) := by decide +kernel
theorem dX11_init_60 : decode cX11_init 60 = .ok (.new 40, 3) := by decide +kernel
theorem dX11_init_63 : decode cX11_init 63 = .ok (.dup, 1) := by decide +kernel
theorem dX11_init_64 : decode cX11_init 64 = .ok (.invokespecial 42, 3) := by decide +kernel
theorem dX11_init_67 : decode cX11_init 67 = .ok (.putfield 43, 3) := by decide +kernel
theorem dX11_init_70 : decode cX11_init 70 = .ok (.aload_n 0, 1) := by decide +kernel
theorem dX11_init_71 : decode cX11_init 71 = .ok (.new 47, 3) := by decide +kernel
theorem dX11_init_74 : decode cX11_init 74 = .ok (.dup, 1) := by decide +kernel
theorem dX11_init_75 : decode cX11_init 75 = .ok (.aload_n 0, 1) := by decide +kernel
theorem dX11_init_76 : decode cX11_init 76 = .ok (.getfield 19, 3) := by decide +kernel
theorem dX11_init_79 : decode cX11_init 79 = .ok (.aload_n 0, 1) := by decide +kernel
theorem dX11_init_80 : decode cX11_init 80 = .ok (.getfield 29, 3) := by decide +kernel
theorem dX11_init_83 : decode cX11_init 83 = .ok (.invokespecial 49, 3) := by decide +kernel
theorem dX11_init_86 : decode cX11_init 86 = .ok (.putfield 52, 3) := by decide +kernel
theorem dX11_init_89 : decode cX11_init 89 = .ok (.aload_n 0, 1) := by decide +kernel
theorem dX11_init_90 : decode cX11_init 90 = .ok (.new 47, 3) := by decide +kernel
theorem dX11_init_93 : decode cX11_init 93 = .ok (.dup, 1) := by decide +kernel
theorem dX11_init_94 : decode cX11_init 94 = .ok (.aload_n 0, 1) := by decide +kernel
theorem dX11_init_95 : decode cX11_init 95 = .ok (.getfield 19, 3) := by decide +kernel
theorem dX11_init_98 : decode cX11_init 98 = .ok (.aload_n 0, 1) := by decide +kernel
theorem dX11_init_99 : decode cX11_init 99 = .ok (.getfield 29, 3) := by decide +kernel
theorem dX11_init_102 : decode cX11_init 102 = .ok (.invokespecial 49, 3) := by decide +kernel
theorem dX11_init_105 : decode cX11_init 105 = .ok (.putfield 56, 3) := by decide +kernel
theorem dX11_init_108 : decode cX11_init 108 = .ok (.aload_n 0, 1) := by decide +kernel
theorem dX11_init_109 : decode cX11_init 109 = .ok (.new 59, 3) := by decide +kernel
theorem dX11_init_112 : decode cX11_init 112 = .ok (.dup, 1) := by decide +kernel
theorem dX11_init_113 : decode cX11_init 113 = .ok (.invokespecial 61, 3) := by decide +kernel
theorem dX11_init_116 : decode cX11_init 116 = .ok (.putfield 62, 3) := by decide +kernel
theorem dX11_init_119 : decode cX11_init 119 = .ok (.aload_n 0, 1) := by decide +kernel
theorem dX11_init_120 : decode cX11_init 120 = .ok (.new 66, 3) := by decide +kernel
theorem dX11_init_123 : decode cX11_init 123 = .ok (.dup, 1) := by decide +kernel
theorem dX11_init_124 : decode cX11_init 124 = .ok (.aload_n 0, 1) := by decide +kernel
theorem dX11_init_125 : decode cX11_init 125 = .ok (.getfield 19, 3) := by decide +kernel
theorem dX11_init_128 : decode cX11_init 128 = .ok (.aload_n 0, 1) := by decide +kernel
theorem dX11_init_129 : decode cX11_init 129 = .ok (.getfield 29, 3) := by decide +kernel
theorem dX11_init_132 : decode cX11_init 132 = .ok (.invokespecial 68, 3) := by decide +kernel
theorem dX11_init_135 : decode cX11_init 135 = .ok (.putfield 69, 3) := by decide +kernel
theorem dX11_init_138 : decode cX11_init 138 = .ok (.aload_n 0, 1) := by decide +kernel
theorem dX11_init_139 : decode cX11_init 139 = .ok (.new 73, 3) := by decide +kernel
theorem dX11_init_142 : decode cX11_init 142 = .ok (.dup, 1) := by decide +kernel
theorem dX11_init_143 : decode cX11_init 143 = .ok (.aload_n 0, 1) := by decide +kernel
theorem dX11_init_144 : decode cX11_init 144 = .ok (.getfield 19, 3) := by decide +kernel
theorem dX11_init_147 : decode cX11_init 147 = .ok (.invokespecial 75, 3) := by decide +kernel
theorem dX11_init_150 : decode cX11_init 150 = .ok (.putfield 78, 3) := by decide +kernel
theorem dX11_init_153 : decode cX11_init 153 = .ok (.aload_n 0, 1) := by decide +kernel
theorem dX11_init_154 : decode cX11_init 154 = .ok (.new 82, 3) := by decide +kernel
theorem dX11_init_157 : decode cX11_init 157 = .ok (.dup, 1) := by decide +kernel
theorem dX11_init_158 : decode cX11_init 158 = .ok (.aload_n 0, 1) := by decide +kernel
theorem dX11_init_159 : decode cX11_init 159 = .ok (.getfield 19, 3) := by decide +kernel
theorem dX11_init_162 : decode cX11_init 162 = .ok (.invokespecial 84, 3) := by decide +kernel
theorem dX11_init_165 : decode cX11_init 165 = .ok (.putfield 85, 3) := by decide +kernel
theorem dX11_init_168 : decode cX11_init 168 = .ok (.aload_n 0, 1) := by decide +kernel
theorem dX11_init_169 : decode cX11_init 169 = .ok (.new 89, 3) := by decide +kernel
theorem dX11_init_172 : decode cX11_init 172 = .ok (.dup, 1) := by decide +kernel
theorem dX11_init_173 : decode cX11_init 173 = .ok (.aload_n 0, 1) := by decide +kernel
theorem dX11_init_174 : decode cX11_init 174 = .ok (.getfield 19, 3) := by decide +kernel
theorem dX11_init_177 : decode cX11_init 177 = .ok (.invokespecial 91, 3) := by decide +kernel
theorem dX11_init_180 : decode cX11_init 180 = .ok (.putfield 92, 3) := by decide +kernel
theorem dX11_init_183 : decode cX11_init 183 = .ok (.return_, 1) := by decide +kernel
theorem dX11_feed_0 : decode cX11_feed 0 = .ok (.aload_n 0, 1) := by decide +kernel
theorem dX11_feed_1 : decode cX11_feed 1 = .ok (.getfield 10, 3) := by decide +kernel
theorem dX11_feed_4 : decode cX11_feed 4 = .ok (.invokevirtual 96, 3) := by decide +kernel
theorem dX11_feed_7 : decode cX11_feed 7 = .ok (.ifCond .ne 5, 3) := by decide +kernel
theorem dX11_feed_10 : decode cX11_feed 10 = .ok (.iconst (-1), 1) := by decide +kernel
theorem dX11_feed_11 : decode cX11_feed 11 = .ok (.ireturn, 1) := by decide +kernel
theorem dX11_feed_12 : decode cX11_feed 12 = .ok (.aload_n 0, 1) := by decide +kernel
theorem dX11_feed_13 : decode cX11_feed 13 = .ok (.getfield 10, 3) := by decide +kernel
theorem dX11_feed_16 : decode cX11_feed 16 = .ok (.iload_n 1, 1) := by decide +kernel
theorem dX11_feed_17 : decode cX11_feed 17 = .ok (.invokevirtual 100, 3) := by decide +kernel
theorem dX11_feed_20 : decode cX11_feed 20 = .ok (.aload_n 0, 1) := by decide +kernel
theorem dX11_feed_21 : decode cX11_feed 21 = .ok (.getfield 10, 3) := by decide +kernel
theorem dX11_feed_24 : decode cX11_feed 24 = .ok (.iload_n 2, 1) := by decide +kernel
theorem dX11_feed_25 : decode cX11_feed 25 = .ok (.invokevirtual 100, 3) := by decide +kernel
theorem dX11_feed_28 : decode cX11_feed 28 = .ok (.aload_n 0, 1) := by decide +kernel
theorem dX11_feed_29 : decode cX11_feed 29 = .ok (.getfield 10, 3) := by decide +kernel
theorem dX11_feed_32 : decode cX11_feed 32 = .ok (.iload_n 3, 1) := by decide +kernel
theorem dX11_feed_33 : decode cX11_feed 33 = .ok (.invokevirtual 100, 3) := by decide +kernel
theorem dX11_feed_36 : decode cX11_feed 36 = .ok (.aload_n 0, 1) := by decide +kernel
theorem dX11_feed_37 : decode cX11_feed 37 = .ok (.getfield 10, 3) := by decide +kernel
theorem dX11_feed_40 : decode cX11_feed 40 = .ok (.iload 4, 2) := by decide +kernel
theorem dX11_feed_42 : decode cX11_feed 42 = .ok (.invokevirtual 100, 3) := by decide +kernel
theorem dX11_feed_45 : decode cX11_feed 45 = .ok (.aload_n 0, 1) := by decide +kernel
theorem dX11_feed_46 : decode cX11_feed 46 = .ok (.getfield 10, 3) := by decide +kernel
theorem dX11_feed_49 : decode cX11_feed 49 = .ok (.iload 5, 2) := by decide +kernel
theorem dX11_feed_51 : decode cX11_feed 51 = .ok (.invokevirtual 100, 3) := by decide +kernel
theorem dX11_feed_54 : decode cX11_feed 54 = .ok (.aload_n 0, 1) := by decide +kernel
theorem dX11_feed_55 : decode cX11_feed 55 = .ok (.getfield 10, 3) := by decide +kernel
theorem dX11_feed_58 : decode cX11_feed 58 = .ok (.invokevirtual 104, 3) := by decide +kernel
theorem dX11_feed_61 : decode cX11_feed 61 = .ok (.ireturn, 1) := by decide +kernel
theorem dX11_house_0 : decode cX11_house 0 = .ok (.aload_n 0, 1) := by decide +kernel
theorem dX11_house_1 : decode cX11_house 1 = .ok (.iload_n 1, 1) := by decide +kernel
theorem dX11_house_2 : decode cX11_house 2 = .ok (.sipush 600, 3) := by decide +kernel
theorem dX11_house_5 : decode cX11_house 5 = .ok (.invokevirtual 108, 3) := by decide +kernel
theorem dX11_house_8 : decode cX11_house 8 = .ok (.aload_n 0, 1) := by decide +kernel
theorem dX11_house_9 : decode cX11_house 9 = .ok (.getfield 23, 3) := by decide +kernel
theorem dX11_house_12 : decode cX11_house 12 = .ok (.aload_n 0, 1) := by decide +kernel
theorem dX11_house_13 : decode cX11_house 13 = .ok (.getfield 10, 3) := by decide +kernel
theorem dX11_house_16 : decode cX11_house 16 = .ok (.invokevirtual 112, 3) := by decide +kernel
theorem dX11_house_19 : decode cX11_house 19 = .ok (.aload_n 0, 1) := by decide +kernel
theorem dX11_house_20 : decode cX11_house 20 = .ok (.getfield 10, 3) := by decide +kernel
theorem dX11_house_23 : decode cX11_house 23 = .ok (.invokevirtual 116, 3) := by decide +kernel
theorem dX11_house_26 : decode cX11_house 26 = .ok (.ifCond .eq 11, 3) := by decide +kernel
theorem dX11_house_29 : decode cX11_house 29 = .ok (.aload_n 0, 1) := by decide +kernel
theorem dX11_house_30 : decode cX11_house 30 = .ok (.getfield 10, 3) := by decide +kernel
theorem dX11_house_33 : decode cX11_house 33 = .ok (.invokevirtual 119, 3) := by decide +kernel
theorem dX11_house_36 : decode cX11_house 36 = .ok (.ireturn, 1) := by decide +kernel
theorem dX11_house_37 : decode cX11_house 37 = .ok (.aload_n 0, 1) := by decide +kernel
theorem dX11_house_38 : decode cX11_house 38 = .ok (.getfield 19, 3) := by decide +kernel
theorem dX11_house_41 : decode cX11_house 41 = .ok (.aload_n 0, 1) := by decide +kernel
theorem dX11_house_42 : decode cX11_house 42 = .ok (.getfield 23, 3) := by decide +kernel
theorem dX11_house_45 : decode cX11_house 45 = .ok (.invokevirtual 122, 3) := by decide +kernel
theorem dX11_house_48 : decode cX11_house 48 = .ok (.aload_n 0, 1) := by decide +kernel
theorem dX11_house_49 : decode cX11_house 49 = .ok (.getfield 29, 3) := by decide +kernel
theorem dX11_house_52 : decode cX11_house 52 = .ok (.invokevirtual 125, 3) := by decide +kernel
theorem dX11_house_55 : decode cX11_house 55 = .ok (.aload_n 0, 1) := by decide +kernel
theorem dX11_house_56 : decode cX11_house 56 = .ok (.getfield 36, 3) := by decide +kernel
theorem dX11_house_59 : decode cX11_house 59 = .ok (.invokevirtual 128, 3) := by decide +kernel
theorem dX11_house_62 : decode cX11_house 62 = .ok (.aload_n 0, 1) := by decide +kernel
theorem dX11_house_63 : decode cX11_house 63 = .ok (.getfield 62, 3) := by decide +kernel
theorem dX11_house_66 : decode cX11_house 66 = .ok (.invokevirtual 129, 3) := by decide +kernel
theorem dX11_house_69 : decode cX11_house 69 = .ok (.aload_n 0, 1) := by decide +kernel
theorem dX11_house_70 : decode cX11_house 70 = .ok (.getfield 52, 3) := by decide +kernel
theorem dX11_house_73 : decode cX11_house 73 = .ok (.invokevirtual 130, 3) := by decide +kernel
theorem dX11_house_76 : decode cX11_house 76 = .ok (.aload_n 0, 1) := by decide +kernel
theorem dX11_house_77 : decode cX11_house 77 = .ok (.iconst 0, 1) := by decide +kernel
theorem dX11_house_78 : decode cX11_house 78 = .ok (.putfield 133, 3) := by decide +kernel
theorem dX11_house_81 : decode cX11_house 81 = .ok (.aload_n 0, 1) := by decide +kernel
theorem dX11_house_82 : decode cX11_house 82 = .ok (.getfield 19, 3) := by decide +kernel
theorem dX11_house_85 : decode cX11_house 85 = .ok (.getfield 137, 3) := by decide +kernel
theorem dX11_house_88 : decode cX11_house 88 = .ok (.ireturn, 1) := by decide +kernel
theorem dX11_law_0 : decode cX11_law 0 = .ok (.aload_n 0, 1) := by decide +kernel
theorem dX11_law_1 : decode cX11_law 1 = .ok (.iload_n 1, 1) := by decide +kernel
theorem dX11_law_2 : decode cX11_law 2 = .ok (.sipush 150, 3) := by decide +kernel
theorem dX11_law_5 : decode cX11_law 5 = .ok (.invokevirtual 108, 3) := by decide +kernel
theorem dX11_law_8 : decode cX11_law 8 = .ok (.aload_n 0, 1) := by decide +kernel
theorem dX11_law_9 : decode cX11_law 9 = .ok (.getfield 29, 3) := by decide +kernel
theorem dX11_law_12 : decode cX11_law 12 = .ok (.aload_n 0, 1) := by decide +kernel
theorem dX11_law_13 : decode cX11_law 13 = .ok (.getfield 10, 3) := by decide +kernel
theorem dX11_law_16 : decode cX11_law 16 = .ok (.invokevirtual 140, 3) := by decide +kernel
theorem dX11_law_19 : decode cX11_law 19 = .ok (.aload_n 0, 1) := by decide +kernel
theorem dX11_law_20 : decode cX11_law 20 = .ok (.getfield 10, 3) := by decide +kernel
theorem dX11_law_23 : decode cX11_law 23 = .ok (.invokevirtual 116, 3) := by decide +kernel
theorem dX11_law_26 : decode cX11_law 26 = .ok (.ifCond .eq 13, 3) := by decide +kernel
theorem dX11_law_29 : decode cX11_law 29 = .ok (.aload_n 0, 1) := by decide +kernel
theorem dX11_law_30 : decode cX11_law 30 = .ok (.getfield 10, 3) := by decide +kernel
theorem dX11_law_33 : decode cX11_law 33 = .ok (.invokevirtual 119, 3) := by decide +kernel
theorem dX11_law_36 : decode cX11_law 36 = .ok (.goto 4, 3) := by decide +kernel
theorem dX11_law_39 : decode cX11_law 39 = .ok (.iconst 1, 1) := by decide +kernel
theorem dX11_law_40 : decode cX11_law 40 = .ok (.ireturn, 1) := by decide +kernel
theorem dX11_work_0 : decode cX11_work 0 = .ok (.aload_n 0, 1) := by decide +kernel
theorem dX11_work_1 : decode cX11_work 1 = .ok (.iload_n 1, 1) := by decide +kernel
theorem dX11_work_2 : decode cX11_work 2 = .ok (.sipush 150, 3) := by decide +kernel
theorem dX11_work_5 : decode cX11_work 5 = .ok (.invokevirtual 108, 3) := by decide +kernel
theorem dX11_work_8 : decode cX11_work 8 = .ok (.aload_n 0, 1) := by decide +kernel
theorem dX11_work_9 : decode cX11_work 9 = .ok (.getfield 62, 3) := by decide +kernel
theorem dX11_work_12 : decode cX11_work 12 = .ok (.invokevirtual 141, 3) := by decide +kernel
theorem dX11_work_15 : decode cX11_work 15 = .ok (.ifCond .eq 6, 3) := by decide +kernel
theorem dX11_work_18 : decode cX11_work 18 = .ok (.bipush (-20), 2) := by decide +kernel
theorem dX11_work_20 : decode cX11_work 20 = .ok (.ireturn, 1) := by decide +kernel
theorem dX11_work_21 : decode cX11_work 21 = .ok (.aload_n 0, 1) := by decide +kernel
theorem dX11_work_22 : decode cX11_work 22 = .ok (.getfield 43, 3) := by decide +kernel
theorem dX11_work_25 : decode cX11_work 25 = .ok (.aload_n 0, 1) := by decide +kernel
theorem dX11_work_26 : decode cX11_work 26 = .ok (.getfield 10, 3) := by decide +kernel
theorem dX11_work_29 : decode cX11_work 29 = .ok (.aload_n 0, 1) := by decide +kernel
theorem dX11_work_30 : decode cX11_work 30 = .ok (.getfield 19, 3) := by decide +kernel
theorem dX11_work_33 : decode cX11_work 33 = .ok (.invokevirtual 144, 3) := by decide +kernel
theorem dX11_work_36 : decode cX11_work 36 = .ok (.aload_n 0, 1) := by decide +kernel
theorem dX11_work_37 : decode cX11_work 37 = .ok (.getfield 10, 3) := by decide +kernel
theorem dX11_work_40 : decode cX11_work 40 = .ok (.invokevirtual 116, 3) := by decide +kernel
theorem dX11_work_43 : decode cX11_work 43 = .ok (.ifCond .eq 11, 3) := by decide +kernel
theorem dX11_work_46 : decode cX11_work 46 = .ok (.aload_n 0, 1) := by decide +kernel
theorem dX11_work_47 : decode cX11_work 47 = .ok (.getfield 10, 3) := by decide +kernel
theorem dX11_work_50 : decode cX11_work 50 = .ok (.invokevirtual 119, 3) := by decide +kernel
theorem dX11_work_53 : decode cX11_work 53 = .ok (.ireturn, 1) := by decide +kernel
theorem dX11_work_54 : decode cX11_work 54 = .ok (.aload_n 0, 1) := by decide +kernel
theorem dX11_work_55 : decode cX11_work 55 = .ok (.getfield 62, 3) := by decide +kernel
theorem dX11_work_58 : decode cX11_work 58 = .ok (.aload_n 0, 1) := by decide +kernel
theorem dX11_work_59 : decode cX11_work 59 = .ok (.getfield 52, 3) := by decide +kernel
theorem dX11_work_62 : decode cX11_work 62 = .ok (.invokevirtual 147, 3) := by decide +kernel
theorem dX11_work_65 : decode cX11_work 65 = .ok (.aload_n 0, 1) := by decide +kernel
theorem dX11_work_66 : decode cX11_work 66 = .ok (.getfield 43, 3) := by decide +kernel
theorem dX11_work_69 : decode cX11_work 69 = .ok (.invokevirtual 151, 3) := by decide +kernel
theorem dX11_work_72 : decode cX11_work 72 = .ok (.aload_n 0, 1) := by decide +kernel
theorem dX11_work_73 : decode cX11_work 73 = .ok (.getfield 43, 3) := by decide +kernel
theorem dX11_work_76 : decode cX11_work 76 = .ok (.aload_n 0, 1) := by decide +kernel
theorem dX11_work_77 : decode cX11_work 77 = .ok (.getfield 52, 3) := by decide +kernel
theorem dX11_work_80 : decode cX11_work 80 = .ok (.iconst 0, 1) := by decide +kernel
theorem dX11_work_81 : decode cX11_work 81 = .ok (.aload_n 0, 1) := by decide +kernel
theorem dX11_work_82 : decode cX11_work 82 = .ok (.getfield 43, 3) := by decide +kernel
theorem dX11_work_85 : decode cX11_work 85 = .ok (.invokevirtual 152, 3) := by decide +kernel
theorem dX11_work_88 : decode cX11_work 88 = .ok (.iconst 0, 1) := by decide +kernel
theorem dX11_work_89 : decode cX11_work 89 = .ok (.invokevirtual 155, 3) := by decide +kernel
theorem dX11_work_92 : decode cX11_work 92 = .ok (.aload_n 0, 1) := by decide +kernel
theorem dX11_work_93 : decode cX11_work 93 = .ok (.aload_n 0, 1) := by decide +kernel
theorem dX11_work_94 : decode cX11_work 94 = .ok (.getfield 43, 3) := by decide +kernel
theorem dX11_work_97 : decode cX11_work 97 = .ok (.getfield 159, 3) := by decide +kernel
theorem dX11_work_100 : decode cX11_work 100 = .ok (.putfield 133, 3) := by decide +kernel
theorem dX11_work_103 : decode cX11_work 103 = .ok (.aload_n 0, 1) := by decide +kernel
theorem dX11_work_104 : decode cX11_work 104 = .ok (.getfield 43, 3) := by decide +kernel
theorem dX11_work_107 : decode cX11_work 107 = .ok (.getfield 162, 3) := by decide +kernel
theorem dX11_work_110 : decode cX11_work 110 = .ok (.ireturn, 1) := by decide +kernel
theorem dX11_book_0 : decode cX11_book 0 = .ok (.aload_n 0, 1) := by decide +kernel
theorem dX11_book_1 : decode cX11_book 1 = .ok (.iload_n 1, 1) := by decide +kernel
theorem dX11_book_2 : decode cX11_book 2 = .ok (.bipush 60, 2) := by decide +kernel
theorem dX11_book_4 : decode cX11_book 4 = .ok (.invokevirtual 108, 3) := by decide +kernel
theorem dX11_book_7 : decode cX11_book 7 = .ok (.aload_n 0, 1) := by decide +kernel
theorem dX11_book_8 : decode cX11_book 8 = .ok (.getfield 36, 3) := by decide +kernel
theorem dX11_book_11 : decode cX11_book 11 = .ok (.aload_n 0, 1) := by decide +kernel
theorem dX11_book_12 : decode cX11_book 12 = .ok (.getfield 10, 3) := by decide +kernel
theorem dX11_book_15 : decode cX11_book 15 = .ok (.aload_n 0, 1) := by decide +kernel
theorem dX11_book_16 : decode cX11_book 16 = .ok (.getfield 19, 3) := by decide +kernel
theorem dX11_book_19 : decode cX11_book 19 = .ok (.getfield 165, 3) := by decide +kernel
theorem dX11_book_22 : decode cX11_book 22 = .ok (.invokevirtual 168, 3) := by decide +kernel
theorem dX11_book_25 : decode cX11_book 25 = .ok (.aload_n 0, 1) := by decide +kernel
theorem dX11_book_26 : decode cX11_book 26 = .ok (.getfield 10, 3) := by decide +kernel
theorem dX11_book_29 : decode cX11_book 29 = .ok (.invokevirtual 116, 3) := by decide +kernel
theorem dX11_book_32 : decode cX11_book 32 = .ok (.ifCond .eq 13, 3) := by decide +kernel
theorem dX11_book_35 : decode cX11_book 35 = .ok (.aload_n 0, 1) := by decide +kernel
theorem dX11_book_36 : decode cX11_book 36 = .ok (.getfield 10, 3) := by decide +kernel
theorem dX11_book_39 : decode cX11_book 39 = .ok (.invokevirtual 119, 3) := by decide +kernel
theorem dX11_book_42 : decode cX11_book 42 = .ok (.goto 10, 3) := by decide +kernel
theorem dX11_book_45 : decode cX11_book 45 = .ok (.aload_n 0, 1) := by decide +kernel
theorem dX11_book_46 : decode cX11_book 46 = .ok (.getfield 36, 3) := by decide +kernel
theorem dX11_book_49 : decode cX11_book 49 = .ok (.invokevirtual 171, 3) := by decide +kernel
theorem dX11_book_52 : decode cX11_book 52 = .ok (.ireturn, 1) := by decide +kernel
theorem dX11_fault_0 : decode cX11_fault 0 = .ok (.aload_n 0, 1) := by decide +kernel
theorem dX11_fault_1 : decode cX11_fault 1 = .ok (.getfield 10, 3) := by decide +kernel
theorem dX11_fault_4 : decode cX11_fault 4 = .ok (.invokevirtual 172, 3) := by decide +kernel
theorem dX11_fault_7 : decode cX11_fault 7 = .ok (.ireturn, 1) := by decide +kernel
theorem dX11_undo_0 : decode cX11_undo 0 = .ok (.aload_n 0, 1) := by decide +kernel
theorem dX11_undo_1 : decode cX11_undo 1 = .ok (.getfield 62, 3) := by decide +kernel
theorem dX11_undo_4 : decode cX11_undo 4 = .ok (.aload_n 0, 1) := by decide +kernel
theorem dX11_undo_5 : decode cX11_undo 5 = .ok (.getfield 52, 3) := by decide +kernel
theorem dX11_undo_8 : decode cX11_undo 8 = .ok (.invokevirtual 175, 3) := by decide +kernel
theorem dX11_undo_11 : decode cX11_undo 11 = .ok (.ifCond .ne 5, 3) := by decide +kernel
theorem dX11_undo_14 : decode cX11_undo 14 = .ok (.iconst (-1), 1) := by decide +kernel
theorem dX11_undo_15 : decode cX11_undo 15 = .ok (.ireturn, 1) := by decide +kernel
theorem dX11_undo_16 : decode cX11_undo 16 = .ok (.aload_n 0, 1) := by decide +kernel
theorem dX11_undo_17 : decode cX11_undo 17 = .ok (.iconst 0, 1) := by decide +kernel
theorem dX11_undo_18 : decode cX11_undo 18 = .ok (.putfield 133, 3) := by decide +kernel
theorem dX11_undo_21 : decode cX11_undo 21 = .ok (.aload_n 0, 1) := by decide +kernel
theorem dX11_undo_22 : decode cX11_undo 22 = .ok (.getfield 62, 3) := by decide +kernel
theorem dX11_undo_25 : decode cX11_undo 25 = .ok (.getfield 179, 3) := by decide +kernel
theorem dX11_undo_28 : decode cX11_undo 28 = .ok (.ireturn, 1) := by decide +kernel
theorem dX11_told_0 : decode cX11_told 0 = .ok (.aload_n 0, 1) := by decide +kernel
theorem dX11_told_1 : decode cX11_told 1 = .ok (.iload_n 1, 1) := by decide +kernel
theorem dX11_told_2 : decode cX11_told 2 = .ok (.iconst 0, 1) := by decide +kernel
theorem dX11_told_3 : decode cX11_told 3 = .ok (.bipush 11, 2) := by decide +kernel
theorem dX11_told_5 : decode cX11_told 5 = .ok (.invokevirtual 182, 3) := by decide +kernel
theorem dX11_told_8 : decode cX11_told 8 = .ok (.iload_n 1, 1) := by decide +kernel
theorem dX11_told_9 : decode cX11_told 9 = .ok (.tableswitch 144 0 10 #[59, 67, 75, 83, 91, 99, 107, 115, 123, 131, 139], 59) := by decide +kernel
theorem dX11_told_68 : decode cX11_told 68 = .ok (.aload_n 0, 1) := by decide +kernel
theorem dX11_told_69 : decode cX11_told 69 = .ok (.getfield 19, 3) := by decide +kernel
theorem dX11_told_72 : decode cX11_told 72 = .ok (.getfield 186, 3) := by decide +kernel
theorem dX11_told_75 : decode cX11_told 75 = .ok (.ireturn, 1) := by decide +kernel
theorem dX11_told_76 : decode cX11_told 76 = .ok (.aload_n 0, 1) := by decide +kernel
theorem dX11_told_77 : decode cX11_told 77 = .ok (.getfield 19, 3) := by decide +kernel
theorem dX11_told_80 : decode cX11_told 80 = .ok (.getfield 189, 3) := by decide +kernel
theorem dX11_told_83 : decode cX11_told 83 = .ok (.ireturn, 1) := by decide +kernel
theorem dX11_told_84 : decode cX11_told 84 = .ok (.aload_n 0, 1) := by decide +kernel
theorem dX11_told_85 : decode cX11_told 85 = .ok (.getfield 19, 3) := by decide +kernel
theorem dX11_told_88 : decode cX11_told 88 = .ok (.getfield 137, 3) := by decide +kernel
theorem dX11_told_91 : decode cX11_told 91 = .ok (.ireturn, 1) := by decide +kernel
theorem dX11_told_92 : decode cX11_told 92 = .ok (.aload_n 0, 1) := by decide +kernel
theorem dX11_told_93 : decode cX11_told 93 = .ok (.getfield 19, 3) := by decide +kernel
theorem dX11_told_96 : decode cX11_told 96 = .ok (.getfield 165, 3) := by decide +kernel
theorem dX11_told_99 : decode cX11_told 99 = .ok (.ireturn, 1) := by decide +kernel
theorem dX11_told_100 : decode cX11_told 100 = .ok (.aload_n 0, 1) := by decide +kernel
theorem dX11_told_101 : decode cX11_told 101 = .ok (.getfield 52, 3) := by decide +kernel
theorem dX11_told_104 : decode cX11_told 104 = .ok (.invokevirtual 192, 3) := by decide +kernel
theorem dX11_told_107 : decode cX11_told 107 = .ok (.ireturn, 1) := by decide +kernel
theorem dX11_told_108 : decode cX11_told 108 = .ok (.aload_n 0, 1) := by decide +kernel
theorem dX11_told_109 : decode cX11_told 109 = .ok (.getfield 52, 3) := by decide +kernel
theorem dX11_told_112 : decode cX11_told 112 = .ok (.invokevirtual 195, 3) := by decide +kernel
theorem dX11_told_115 : decode cX11_told 115 = .ok (.ireturn, 1) := by decide +kernel
theorem dX11_told_116 : decode cX11_told 116 = .ok (.aload_n 0, 1) := by decide +kernel
theorem dX11_told_117 : decode cX11_told 117 = .ok (.getfield 52, 3) := by decide +kernel
theorem dX11_told_120 : decode cX11_told 120 = .ok (.invokevirtual 198, 3) := by decide +kernel
theorem dX11_told_123 : decode cX11_told 123 = .ok (.ireturn, 1) := by decide +kernel
theorem dX11_told_124 : decode cX11_told 124 = .ok (.aload_n 0, 1) := by decide +kernel
theorem dX11_told_125 : decode cX11_told 125 = .ok (.getfield 52, 3) := by decide +kernel
theorem dX11_told_128 : decode cX11_told 128 = .ok (.invokevirtual 201, 3) := by decide +kernel
theorem dX11_told_131 : decode cX11_told 131 = .ok (.ireturn, 1) := by decide +kernel
theorem dX11_told_132 : decode cX11_told 132 = .ok (.aload_n 0, 1) := by decide +kernel
theorem dX11_told_133 : decode cX11_told 133 = .ok (.getfield 52, 3) := by decide +kernel
theorem dX11_told_136 : decode cX11_told 136 = .ok (.invokevirtual 204, 3) := by decide +kernel
theorem dX11_told_139 : decode cX11_told 139 = .ok (.ireturn, 1) := by decide +kernel
theorem dX11_told_140 : decode cX11_told 140 = .ok (.aload_n 0, 1) := by decide +kernel
theorem dX11_told_141 : decode cX11_told 141 = .ok (.getfield 36, 3) := by decide +kernel
theorem dX11_told_144 : decode cX11_told 144 = .ok (.invokevirtual 171, 3) := by decide +kernel
theorem dX11_told_147 : decode cX11_told 147 = .ok (.ireturn, 1) := by decide +kernel
theorem dX11_told_148 : decode cX11_told 148 = .ok (.aload_n 0, 1) := by decide +kernel
theorem dX11_told_149 : decode cX11_told 149 = .ok (.getfield 133, 3) := by decide +kernel
theorem dX11_told_152 : decode cX11_told 152 = .ok (.ireturn, 1) := by decide +kernel
theorem dX11_told_153 : decode cX11_told 153 = .ok (.aload_n 0, 1) := by decide +kernel
theorem dX11_told_154 : decode cX11_told 154 = .ok (.getfield 52, 3) := by decide +kernel
theorem dX11_told_157 : decode cX11_told 157 = .ok (.aload_n 0, 1) := by decide +kernel
theorem dX11_told_158 : decode cX11_told 158 = .ok (.getfield 52, 3) := by decide +kernel
theorem dX11_told_161 : decode cX11_told 161 = .ok (.invokevirtual 195, 3) := by decide +kernel
theorem dX11_told_164 : decode cX11_told 164 = .ok (.invokevirtual 207, 3) := by decide +kernel
theorem dX11_told_167 : decode cX11_told 167 = .ok (.ireturn, 1) := by decide +kernel
theorem dX11_room_0 : decode cX11_room 0 = .ok (.aload_n 0, 1) := by decide +kernel
theorem dX11_room_1 : decode cX11_room 1 = .ok (.iload_n 1, 1) := by decide +kernel
theorem dX11_room_2 : decode cX11_room 2 = .ok (.aload_n 0, 1) := by decide +kernel
theorem dX11_room_3 : decode cX11_room 3 = .ok (.getfield 19, 3) := by decide +kernel
theorem dX11_room_6 : decode cX11_room 6 = .ok (.getfield 186, 3) := by decide +kernel
theorem dX11_room_9 : decode cX11_room 9 = .ok (.invokevirtual 211, 3) := by decide +kernel
theorem dX11_room_12 : decode cX11_room 12 = .ok (.aload_n 0, 1) := by decide +kernel
theorem dX11_room_13 : decode cX11_room 13 = .ok (.iload_n 2, 1) := by decide +kernel
theorem dX11_room_14 : decode cX11_room 14 = .ok (.iconst 0, 1) := by decide +kernel
theorem dX11_room_15 : decode cX11_room 15 = .ok (.iconst 3, 1) := by decide +kernel
theorem dX11_room_16 : decode cX11_room 16 = .ok (.invokevirtual 182, 3) := by decide +kernel
theorem dX11_room_19 : decode cX11_room 19 = .ok (.iload_n 2, 1) := by decide +kernel
theorem dX11_room_20 : decode cX11_room 20 = .ok (.tableswitch 56 0 2 #[28, 38, 47], 28) := by decide +kernel
theorem dX11_room_48 : decode cX11_room 48 = .ok (.aload_n 0, 1) := by decide +kernel
theorem dX11_room_49 : decode cX11_room 49 = .ok (.getfield 19, 3) := by decide +kernel
theorem dX11_room_52 : decode cX11_room 52 = .ok (.getfield 214, 3) := by decide +kernel
theorem dX11_room_55 : decode cX11_room 55 = .ok (.iload_n 1, 1) := by decide +kernel
theorem dX11_room_56 : decode cX11_room 56 = .ok (.iaload, 1) := by decide +kernel
theorem dX11_room_57 : decode cX11_room 57 = .ok (.ireturn, 1) := by decide +kernel
theorem dX11_room_58 : decode cX11_room 58 = .ok (.aload_n 0, 1) := by decide +kernel
theorem dX11_room_59 : decode cX11_room 59 = .ok (.getfield 52, 3) := by decide +kernel
theorem dX11_room_62 : decode cX11_room 62 = .ok (.iload_n 1, 1) := by decide +kernel
theorem dX11_room_63 : decode cX11_room 63 = .ok (.invokevirtual 218, 3) := by decide +kernel
theorem dX11_room_66 : decode cX11_room 66 = .ok (.ireturn, 1) := by decide +kernel
theorem dX11_room_67 : decode cX11_room 67 = .ok (.aload_n 0, 1) := by decide +kernel
theorem dX11_room_68 : decode cX11_room 68 = .ok (.getfield 52, 3) := by decide +kernel
theorem dX11_room_71 : decode cX11_room 71 = .ok (.iload_n 1, 1) := by decide +kernel
theorem dX11_room_72 : decode cX11_room 72 = .ok (.invokevirtual 221, 3) := by decide +kernel
theorem dX11_room_75 : decode cX11_room 75 = .ok (.ireturn, 1) := by decide +kernel
theorem dX11_room_76 : decode cX11_room 76 = .ok (.aload_n 0, 1) := by decide +kernel
theorem dX11_room_77 : decode cX11_room 77 = .ok (.getfield 52, 3) := by decide +kernel
theorem dX11_room_80 : decode cX11_room 80 = .ok (.iload_n 1, 1) := by decide +kernel
theorem dX11_room_81 : decode cX11_room 81 = .ok (.invokevirtual 224, 3) := by decide +kernel
theorem dX11_room_84 : decode cX11_room 84 = .ok (.ireturn, 1) := by decide +kernel
theorem dX11_way_0 : decode cX11_way 0 = .ok (.aload_n 0, 1) := by decide +kernel
theorem dX11_way_1 : decode cX11_way 1 = .ok (.iload_n 1, 1) := by decide +kernel
theorem dX11_way_2 : decode cX11_way 2 = .ok (.aload_n 0, 1) := by decide +kernel
theorem dX11_way_3 : decode cX11_way 3 = .ok (.getfield 19, 3) := by decide +kernel
theorem dX11_way_6 : decode cX11_way 6 = .ok (.getfield 189, 3) := by decide +kernel
theorem dX11_way_9 : decode cX11_way 9 = .ok (.invokevirtual 211, 3) := by decide +kernel
theorem dX11_way_12 : decode cX11_way 12 = .ok (.aload_n 0, 1) := by decide +kernel
theorem dX11_way_13 : decode cX11_way 13 = .ok (.iload_n 2, 1) := by decide +kernel
theorem dX11_way_14 : decode cX11_way 14 = .ok (.iconst 0, 1) := by decide +kernel
theorem dX11_way_15 : decode cX11_way 15 = .ok (.iconst 2, 1) := by decide +kernel
theorem dX11_way_16 : decode cX11_way 16 = .ok (.invokevirtual 182, 3) := by decide +kernel
theorem dX11_way_19 : decode cX11_way 19 = .ok (.iload_n 2, 1) := by decide +kernel
theorem dX11_way_20 : decode cX11_way 20 = .ok (.lookupswitch 48 #[(0, 28), (1, 38)], 28) := by decide +kernel
theorem dX11_way_48 : decode cX11_way 48 = .ok (.aload_n 0, 1) := by decide +kernel
theorem dX11_way_49 : decode cX11_way 49 = .ok (.getfield 19, 3) := by decide +kernel
theorem dX11_way_52 : decode cX11_way 52 = .ok (.getfield 227, 3) := by decide +kernel
theorem dX11_way_55 : decode cX11_way 55 = .ok (.iload_n 1, 1) := by decide +kernel
theorem dX11_way_56 : decode cX11_way 56 = .ok (.iaload, 1) := by decide +kernel
theorem dX11_way_57 : decode cX11_way 57 = .ok (.ireturn, 1) := by decide +kernel
theorem dX11_way_58 : decode cX11_way 58 = .ok (.aload_n 0, 1) := by decide +kernel
theorem dX11_way_59 : decode cX11_way 59 = .ok (.getfield 19, 3) := by decide +kernel
theorem dX11_way_62 : decode cX11_way 62 = .ok (.getfield 230, 3) := by decide +kernel
theorem dX11_way_65 : decode cX11_way 65 = .ok (.iload_n 1, 1) := by decide +kernel
theorem dX11_way_66 : decode cX11_way 66 = .ok (.iaload, 1) := by decide +kernel
theorem dX11_way_67 : decode cX11_way 67 = .ok (.ireturn, 1) := by decide +kernel
theorem dX11_way_68 : decode cX11_way 68 = .ok (.aload_n 0, 1) := by decide +kernel
theorem dX11_way_69 : decode cX11_way 69 = .ok (.getfield 52, 3) := by decide +kernel
theorem dX11_way_72 : decode cX11_way 72 = .ok (.invokevirtual 204, 3) := by decide +kernel
theorem dX11_way_75 : decode cX11_way 75 = .ok (.iload_n 1, 1) := by decide +kernel
theorem dX11_way_76 : decode cX11_way 76 = .ok (.ishr, 1) := by decide +kernel
theorem dX11_way_77 : decode cX11_way 77 = .ok (.iconst 1, 1) := by decide +kernel
theorem dX11_way_78 : decode cX11_way 78 = .ok (.iand, 1) := by decide +kernel
theorem dX11_way_79 : decode cX11_way 79 = .ok (.ireturn, 1) := by decide +kernel
theorem dX11_scheme_0 : decode cX11_scheme 0 = .ok (.aload_n 0, 1) := by decide +kernel
theorem dX11_scheme_1 : decode cX11_scheme 1 = .ok (.iload_n 1, 1) := by decide +kernel
theorem dX11_scheme_2 : decode cX11_scheme 2 = .ok (.aload_n 0, 1) := by decide +kernel
theorem dX11_scheme_3 : decode cX11_scheme 3 = .ok (.getfield 19, 3) := by decide +kernel
theorem dX11_scheme_6 : decode cX11_scheme 6 = .ok (.getfield 137, 3) := by decide +kernel
theorem dX11_scheme_9 : decode cX11_scheme 9 = .ok (.invokevirtual 211, 3) := by decide +kernel
theorem dX11_scheme_12 : decode cX11_scheme 12 = .ok (.aload_n 0, 1) := by decide +kernel
theorem dX11_scheme_13 : decode cX11_scheme 13 = .ok (.iload_n 2, 1) := by decide +kernel
theorem dX11_scheme_14 : decode cX11_scheme 14 = .ok (.iconst 0, 1) := by decide +kernel
theorem dX11_scheme_15 : decode cX11_scheme 15 = .ok (.iconst 5, 1) := by decide +kernel
theorem dX11_scheme_16 : decode cX11_scheme 16 = .ok (.invokevirtual 182, 3) := by decide +kernel
theorem dX11_scheme_19 : decode cX11_scheme 19 = .ok (.iload_n 2, 1) := by decide +kernel
theorem dX11_scheme_20 : decode cX11_scheme 20 = .ok (.tableswitch 90 0 4 #[36, 45, 54, 64, 81], 36) := by decide +kernel
theorem dX11_scheme_56 : decode cX11_scheme 56 = .ok (.aload_n 0, 1) := by decide +kernel
theorem dX11_scheme_57 : decode cX11_scheme 57 = .ok (.getfield 52, 3) := by decide +kernel
theorem dX11_scheme_60 : decode cX11_scheme 60 = .ok (.iload_n 1, 1) := by decide +kernel
theorem dX11_scheme_61 : decode cX11_scheme 61 = .ok (.invokevirtual 233, 3) := by decide +kernel
theorem dX11_scheme_64 : decode cX11_scheme 64 = .ok (.ireturn, 1) := by decide +kernel
theorem dX11_scheme_65 : decode cX11_scheme 65 = .ok (.aload_n 0, 1) := by decide +kernel
theorem dX11_scheme_66 : decode cX11_scheme 66 = .ok (.getfield 52, 3) := by decide +kernel
theorem dX11_scheme_69 : decode cX11_scheme 69 = .ok (.iload_n 1, 1) := by decide +kernel
theorem dX11_scheme_70 : decode cX11_scheme 70 = .ok (.invokevirtual 236, 3) := by decide +kernel
theorem dX11_scheme_73 : decode cX11_scheme 73 = .ok (.ireturn, 1) := by decide +kernel
theorem dX11_scheme_74 : decode cX11_scheme 74 = .ok (.aload_n 0, 1) := by decide +kernel
theorem dX11_scheme_75 : decode cX11_scheme 75 = .ok (.getfield 19, 3) := by decide +kernel
theorem dX11_scheme_78 : decode cX11_scheme 78 = .ok (.getfield 239, 3) := by decide +kernel
theorem dX11_scheme_81 : decode cX11_scheme 81 = .ok (.iload_n 1, 1) := by decide +kernel
theorem dX11_scheme_82 : decode cX11_scheme 82 = .ok (.iaload, 1) := by decide +kernel
theorem dX11_scheme_83 : decode cX11_scheme 83 = .ok (.ireturn, 1) := by decide +kernel
theorem dX11_scheme_84 : decode cX11_scheme 84 = .ok (.aload_n 0, 1) := by decide +kernel
theorem dX11_scheme_85 : decode cX11_scheme 85 = .ok (.getfield 52, 3) := by decide +kernel
theorem dX11_scheme_88 : decode cX11_scheme 88 = .ok (.iload_n 1, 1) := by decide +kernel
theorem dX11_scheme_89 : decode cX11_scheme 89 = .ok (.invokevirtual 242, 3) := by decide +kernel
theorem dX11_scheme_92 : decode cX11_scheme 92 = .ok (.ifCond .eq 7, 3) := by decide +kernel
theorem dX11_scheme_95 : decode cX11_scheme 95 = .ok (.iconst 1, 1) := by decide +kernel
theorem dX11_scheme_96 : decode cX11_scheme 96 = .ok (.goto 4, 3) := by decide +kernel
theorem dX11_scheme_99 : decode cX11_scheme 99 = .ok (.iconst 0, 1) := by decide +kernel
theorem dX11_scheme_100 : decode cX11_scheme 100 = .ok (.ireturn, 1) := by decide +kernel
theorem dX11_scheme_101 : decode cX11_scheme 101 = .ok (.aload_n 0, 1) := by decide +kernel
theorem dX11_scheme_102 : decode cX11_scheme 102 = .ok (.getfield 52, 3) := by decide +kernel
theorem dX11_scheme_105 : decode cX11_scheme 105 = .ok (.iload_n 1, 1) := by decide +kernel
theorem dX11_scheme_106 : decode cX11_scheme 106 = .ok (.invokevirtual 246, 3) := by decide +kernel
theorem dX11_scheme_109 : decode cX11_scheme 109 = .ok (.ireturn, 1) := by decide +kernel
theorem dX11_scheme_110 : decode cX11_scheme 110 = .ok (.aload_n 0, 1) := by decide +kernel
theorem dX11_scheme_111 : decode cX11_scheme 111 = .ok (.getfield 52, 3) := by decide +kernel
theorem dX11_scheme_114 : decode cX11_scheme 114 = .ok (.iload_n 1, 1) := by decide +kernel
theorem dX11_scheme_115 : decode cX11_scheme 115 = .ok (.invokevirtual 249, 3) := by decide +kernel
theorem dX11_scheme_118 : decode cX11_scheme 118 = .ok (.ireturn, 1) := by decide +kernel
theorem dX11_cat_0 : decode cX11_cat 0 = .ok (.aload_n 0, 1) := by decide +kernel
theorem dX11_cat_1 : decode cX11_cat 1 = .ok (.iload_n 1, 1) := by decide +kernel
theorem dX11_cat_2 : decode cX11_cat 2 = .ok (.aload_n 0, 1) := by decide +kernel
theorem dX11_cat_3 : decode cX11_cat 3 = .ok (.getfield 19, 3) := by decide +kernel
theorem dX11_cat_6 : decode cX11_cat 6 = .ok (.getfield 165, 3) := by decide +kernel
theorem dX11_cat_9 : decode cX11_cat 9 = .ok (.invokevirtual 211, 3) := by decide +kernel
theorem dX11_cat_12 : decode cX11_cat 12 = .ok (.aload_n 0, 1) := by decide +kernel
theorem dX11_cat_13 : decode cX11_cat 13 = .ok (.iload_n 2, 1) := by decide +kernel
theorem dX11_cat_14 : decode cX11_cat 14 = .ok (.iconst 0, 1) := by decide +kernel
theorem dX11_cat_15 : decode cX11_cat 15 = .ok (.iconst 3, 1) := by decide +kernel
theorem dX11_cat_16 : decode cX11_cat 16 = .ok (.invokevirtual 182, 3) := by decide +kernel
theorem dX11_cat_19 : decode cX11_cat 19 = .ok (.iload_n 2, 1) := by decide +kernel
theorem dX11_cat_20 : decode cX11_cat 20 = .ok (.tableswitch 56 0 2 #[28, 37, 47], 28) := by decide +kernel
theorem dX11_cat_48 : decode cX11_cat 48 = .ok (.aload_n 0, 1) := by decide +kernel
theorem dX11_cat_49 : decode cX11_cat 49 = .ok (.getfield 52, 3) := by decide +kernel
theorem dX11_cat_52 : decode cX11_cat 52 = .ok (.iload_n 1, 1) := by decide +kernel
theorem dX11_cat_53 : decode cX11_cat 53 = .ok (.invokevirtual 252, 3) := by decide +kernel
theorem dX11_cat_56 : decode cX11_cat 56 = .ok (.ireturn, 1) := by decide +kernel
theorem dX11_cat_57 : decode cX11_cat 57 = .ok (.aload_n 0, 1) := by decide +kernel
theorem dX11_cat_58 : decode cX11_cat 58 = .ok (.getfield 19, 3) := by decide +kernel
theorem dX11_cat_61 : decode cX11_cat 61 = .ok (.getfield 255, 3) := by decide +kernel
theorem dX11_cat_64 : decode cX11_cat 64 = .ok (.iload_n 1, 1) := by decide +kernel
theorem dX11_cat_65 : decode cX11_cat 65 = .ok (.iaload, 1) := by decide +kernel
theorem dX11_cat_66 : decode cX11_cat 66 = .ok (.ireturn, 1) := by decide +kernel
theorem dX11_cat_67 : decode cX11_cat 67 = .ok (.aload_n 0, 1) := by decide +kernel
theorem dX11_cat_68 : decode cX11_cat 68 = .ok (.getfield 52, 3) := by decide +kernel
theorem dX11_cat_71 : decode cX11_cat 71 = .ok (.iload_n 1, 1) := by decide +kernel
theorem dX11_cat_72 : decode cX11_cat 72 = .ok (.invokevirtual 258, 3) := by decide +kernel
theorem dX11_cat_75 : decode cX11_cat 75 = .ok (.ireturn, 1) := by decide +kernel
theorem dX11_cat_76 : decode cX11_cat 76 = .ok (.aload_n 0, 1) := by decide +kernel
theorem dX11_cat_77 : decode cX11_cat 77 = .ok (.getfield 52, 3) := by decide +kernel
theorem dX11_cat_80 : decode cX11_cat 80 = .ok (.iload_n 1, 1) := by decide +kernel
theorem dX11_cat_81 : decode cX11_cat 81 = .ok (.invokevirtual 261, 3) := by decide +kernel
theorem dX11_cat_84 : decode cX11_cat 84 = .ok (.ireturn, 1) := by decide +kernel
theorem dX11_more_0 : decode cX11_more 0 = .ok (.aload_n 0, 1) := by decide +kernel
theorem dX11_more_1 : decode cX11_more 1 = .ok (.iload_n 1, 1) := by decide +kernel
theorem dX11_more_2 : decode cX11_more 2 = .ok (.aload_n 0, 1) := by decide +kernel
theorem dX11_more_3 : decode cX11_more 3 = .ok (.getfield 19, 3) := by decide +kernel
theorem dX11_more_6 : decode cX11_more 6 = .ok (.getfield 137, 3) := by decide +kernel
theorem dX11_more_9 : decode cX11_more 9 = .ok (.invokevirtual 211, 3) := by decide +kernel
theorem dX11_more_12 : decode cX11_more 12 = .ok (.aload_n 0, 1) := by decide +kernel
theorem dX11_more_13 : decode cX11_more 13 = .ok (.getfield 52, 3) := by decide +kernel
theorem dX11_more_16 : decode cX11_more 16 = .ok (.iload_n 1, 1) := by decide +kernel
theorem dX11_more_17 : decode cX11_more 17 = .ok (.invokevirtual 264, 3) := by decide +kernel
theorem dX11_more_20 : decode cX11_more 20 = .ok (.ireturn, 1) := by decide +kernel
theorem dX11_would_0 : decode cX11_would 0 = .ok (.aload_n 0, 1) := by decide +kernel
theorem dX11_would_1 : decode cX11_would 1 = .ok (.iload_n 1, 1) := by decide +kernel
theorem dX11_would_2 : decode cX11_would 2 = .ok (.iconst 0, 1) := by decide +kernel
theorem dX11_would_3 : decode cX11_would 3 = .ok (.sipush 999, 3) := by decide +kernel
theorem dX11_would_6 : decode cX11_would 6 = .ok (.invokevirtual 182, 3) := by decide +kernel
theorem dX11_would_9 : decode cX11_would 9 = .ok (.aload_n 0, 1) := by decide +kernel
theorem dX11_would_10 : decode cX11_would 10 = .ok (.iload_n 2, 1) := by decide +kernel
theorem dX11_would_11 : decode cX11_would 11 = .ok (.iconst 0, 1) := by decide +kernel
theorem dX11_would_12 : decode cX11_would 12 = .ok (.bipush 9, 2) := by decide +kernel
theorem dX11_would_14 : decode cX11_would 14 = .ok (.invokevirtual 182, 3) := by decide +kernel
theorem dX11_would_17 : decode cX11_would 17 = .ok (.aload_n 0, 1) := by decide +kernel
theorem dX11_would_18 : decode cX11_would 18 = .ok (.iload_n 3, 1) := by decide +kernel
theorem dX11_would_19 : decode cX11_would 19 = .ok (.iconst 0, 1) := by decide +kernel
theorem dX11_would_20 : decode cX11_would 20 = .ok (.bipush 60, 2) := by decide +kernel
theorem dX11_would_22 : decode cX11_would 22 = .ok (.invokevirtual 182, 3) := by decide +kernel
theorem dX11_would_25 : decode cX11_would 25 = .ok (.aload_n 0, 1) := by decide +kernel
theorem dX11_would_26 : decode cX11_would 26 = .ok (.iload 4, 2) := by decide +kernel
theorem dX11_would_28 : decode cX11_would 28 = .ok (.iconst 0, 1) := by decide +kernel
theorem dX11_would_29 : decode cX11_would 29 = .ok (.iconst 5, 1) := by decide +kernel
theorem dX11_would_30 : decode cX11_would 30 = .ok (.invokevirtual 182, 3) := by decide +kernel
theorem dX11_would_33 : decode cX11_would 33 = .ok (.aload_n 0, 1) := by decide +kernel
theorem dX11_would_34 : decode cX11_would 34 = .ok (.iload 5, 2) := by decide +kernel
theorem dX11_would_36 : decode cX11_would 36 = .ok (.iconst 0, 1) := by decide +kernel
theorem dX11_would_37 : decode cX11_would 37 = .ok (.sipush 900, 3) := by decide +kernel
theorem dX11_would_40 : decode cX11_would 40 = .ok (.invokevirtual 182, 3) := by decide +kernel
theorem dX11_would_43 : decode cX11_would 43 = .ok (.aload_n 0, 1) := by decide +kernel
theorem dX11_would_44 : decode cX11_would 44 = .ok (.iload 6, 2) := by decide +kernel
theorem dX11_would_46 : decode cX11_would 46 = .ok (.iconst 0, 1) := by decide +kernel
theorem dX11_would_47 : decode cX11_would 47 = .ok (.bipush 8, 2) := by decide +kernel
theorem dX11_would_49 : decode cX11_would 49 = .ok (.invokevirtual 182, 3) := by decide +kernel
theorem dX11_would_52 : decode cX11_would 52 = .ok (.aload_n 0, 1) := by decide +kernel
theorem dX11_would_53 : decode cX11_would 53 = .ok (.iload 7, 2) := by decide +kernel
theorem dX11_would_55 : decode cX11_would 55 = .ok (.iconst 0, 1) := by decide +kernel
theorem dX11_would_56 : decode cX11_would 56 = .ok (.bipush 7, 2) := by decide +kernel
theorem dX11_would_58 : decode cX11_would 58 = .ok (.invokevirtual 182, 3) := by decide +kernel
theorem dX11_would_61 : decode cX11_would 61 = .ok (.aload_n 0, 1) := by decide +kernel
theorem dX11_would_62 : decode cX11_would 62 = .ok (.getfield 29, 3) := by decide +kernel
theorem dX11_would_65 : decode cX11_would 65 = .ok (.iload_n 1, 1) := by decide +kernel
theorem dX11_would_66 : decode cX11_would 66 = .ok (.iload_n 2, 1) := by decide +kernel
theorem dX11_would_67 : decode cX11_would 67 = .ok (.iload_n 3, 1) := by decide +kernel
theorem dX11_would_68 : decode cX11_would 68 = .ok (.iload 4, 2) := by decide +kernel
theorem dX11_would_70 : decode cX11_would 70 = .ok (.iload 5, 2) := by decide +kernel
theorem dX11_would_72 : decode cX11_would 72 = .ok (.iload 6, 2) := by decide +kernel
theorem dX11_would_74 : decode cX11_would 74 = .ok (.iload 7, 2) := by decide +kernel
theorem dX11_would_76 : decode cX11_would 76 = .ok (.invokevirtual 267, 3) := by decide +kernel
theorem dX11_would_79 : decode cX11_would 79 = .ok (.ireturn, 1) := by decide +kernel
theorem dX11_greatest_0 : decode cX11_greatest 0 = .ok (.aload_n 0, 1) := by decide +kernel
theorem dX11_greatest_1 : decode cX11_greatest 1 = .ok (.iload_n 1, 1) := by decide +kernel
theorem dX11_greatest_2 : decode cX11_greatest 2 = .ok (.iconst 0, 1) := by decide +kernel
theorem dX11_greatest_3 : decode cX11_greatest 3 = .ok (.iconst 1, 1) := by decide +kernel
theorem dX11_greatest_4 : decode cX11_greatest 4 = .ok (.invokevirtual 182, 3) := by decide +kernel
theorem dX11_greatest_7 : decode cX11_greatest 7 = .ok (.aload_n 0, 1) := by decide +kernel
theorem dX11_greatest_8 : decode cX11_greatest 8 = .ok (.getfield 52, 3) := by decide +kernel
theorem dX11_greatest_11 : decode cX11_greatest 11 = .ok (.aload_n 0, 1) := by decide +kernel
theorem dX11_greatest_12 : decode cX11_greatest 12 = .ok (.getfield 52, 3) := by decide +kernel
theorem dX11_greatest_15 : decode cX11_greatest 15 = .ok (.invokevirtual 195, 3) := by decide +kernel
theorem dX11_greatest_18 : decode cX11_greatest 18 = .ok (.invokevirtual 271, 3) := by decide +kernel
theorem dX11_greatest_21 : decode cX11_greatest 21 = .ok (.istore_n 2, 1) := by decide +kernel
theorem dX11_greatest_22 : decode cX11_greatest 22 = .ok (.iload_n 2, 1) := by decide +kernel
theorem dX11_greatest_23 : decode cX11_greatest 23 = .ok (.iconst (-1), 1) := by decide +kernel
theorem dX11_greatest_24 : decode cX11_greatest 24 = .ok (.if_icmp .ne 5, 3) := by decide +kernel
theorem dX11_greatest_27 : decode cX11_greatest 27 = .ok (.iconst (-1), 1) := by decide +kernel
theorem dX11_greatest_28 : decode cX11_greatest 28 = .ok (.ireturn, 1) := by decide +kernel
theorem dX11_greatest_29 : decode cX11_greatest 29 = .ok (.iload_n 1, 1) := by decide +kernel
theorem dX11_greatest_30 : decode cX11_greatest 30 = .ok (.ifCond .ne 7, 3) := by decide +kernel
theorem dX11_greatest_33 : decode cX11_greatest 33 = .ok (.iload_n 2, 1) := by decide +kernel
theorem dX11_greatest_34 : decode cX11_greatest 34 = .ok (.goto 11, 3) := by decide +kernel
theorem dX11_greatest_37 : decode cX11_greatest 37 = .ok (.aload_n 0, 1) := by decide +kernel
theorem dX11_greatest_38 : decode cX11_greatest 38 = .ok (.getfield 52, 3) := by decide +kernel
theorem dX11_greatest_41 : decode cX11_greatest 41 = .ok (.iload_n 2, 1) := by decide +kernel
theorem dX11_greatest_42 : decode cX11_greatest 42 = .ok (.invokevirtual 236, 3) := by decide +kernel
theorem dX11_greatest_45 : decode cX11_greatest 45 = .ok (.ireturn, 1) := by decide +kernel
theorem dX11_proudest_0 : decode cX11_proudest 0 = .ok (.aload_n 0, 1) := by decide +kernel
theorem dX11_proudest_1 : decode cX11_proudest 1 = .ok (.iload_n 1, 1) := by decide +kernel
theorem dX11_proudest_2 : decode cX11_proudest 2 = .ok (.iconst 0, 1) := by decide +kernel
theorem dX11_proudest_3 : decode cX11_proudest 3 = .ok (.iconst 1, 1) := by decide +kernel
theorem dX11_proudest_4 : decode cX11_proudest 4 = .ok (.invokevirtual 182, 3) := by decide +kernel
theorem dX11_proudest_7 : decode cX11_proudest 7 = .ok (.aload_n 0, 1) := by decide +kernel
theorem dX11_proudest_8 : decode cX11_proudest 8 = .ok (.getfield 52, 3) := by decide +kernel
theorem dX11_proudest_11 : decode cX11_proudest 11 = .ok (.invokevirtual 274, 3) := by decide +kernel
theorem dX11_proudest_14 : decode cX11_proudest 14 = .ok (.istore_n 2, 1) := by decide +kernel
theorem dX11_proudest_15 : decode cX11_proudest 15 = .ok (.iload_n 2, 1) := by decide +kernel
theorem dX11_proudest_16 : decode cX11_proudest 16 = .ok (.iconst (-1), 1) := by decide +kernel
theorem dX11_proudest_17 : decode cX11_proudest 17 = .ok (.if_icmp .ne 5, 3) := by decide +kernel
theorem dX11_proudest_20 : decode cX11_proudest 20 = .ok (.iconst (-1), 1) := by decide +kernel
theorem dX11_proudest_21 : decode cX11_proudest 21 = .ok (.ireturn, 1) := by decide +kernel
theorem dX11_proudest_22 : decode cX11_proudest 22 = .ok (.iload_n 1, 1) := by decide +kernel
theorem dX11_proudest_23 : decode cX11_proudest 23 = .ok (.ifCond .ne 7, 3) := by decide +kernel
theorem dX11_proudest_26 : decode cX11_proudest 26 = .ok (.iload_n 2, 1) := by decide +kernel
theorem dX11_proudest_27 : decode cX11_proudest 27 = .ok (.goto 11, 3) := by decide +kernel
theorem dX11_proudest_30 : decode cX11_proudest 30 = .ok (.aload_n 0, 1) := by decide +kernel
theorem dX11_proudest_31 : decode cX11_proudest 31 = .ok (.getfield 52, 3) := by decide +kernel
theorem dX11_proudest_34 : decode cX11_proudest 34 = .ok (.iload_n 2, 1) := by decide +kernel
theorem dX11_proudest_35 : decode cX11_proudest 35 = .ok (.invokevirtual 258, 3) := by decide +kernel
theorem dX11_proudest_38 : decode cX11_proudest 38 = .ok (.ireturn, 1) := by decide +kernel
theorem dX11_safe_0 : decode cX11_safe 0 = .ok (.iconst 0, 1) := by decide +kernel
theorem dX11_safe_1 : decode cX11_safe 1 = .ok (.istore_n 1, 1) := by decide +kernel
theorem dX11_safe_2 : decode cX11_safe 2 = .ok (.iconst 0, 1) := by decide +kernel
theorem dX11_safe_3 : decode cX11_safe 3 = .ok (.istore_n 2, 1) := by decide +kernel
theorem dX11_safe_4 : decode cX11_safe 4 = .ok (.iload_n 2, 1) := by decide +kernel
theorem dX11_safe_5 : decode cX11_safe 5 = .ok (.aload_n 0, 1) := by decide +kernel
theorem dX11_safe_6 : decode cX11_safe 6 = .ok (.getfield 19, 3) := by decide +kernel
theorem dX11_safe_9 : decode cX11_safe 9 = .ok (.getfield 165, 3) := by decide +kernel
theorem dX11_safe_12 : decode cX11_safe 12 = .ok (.if_icmp .ge 20, 3) := by decide +kernel
theorem dX11_safe_15 : decode cX11_safe 15 = .ok (.iload_n 1, 1) := by decide +kernel
theorem dX11_safe_16 : decode cX11_safe 16 = .ok (.aload_n 0, 1) := by decide +kernel
theorem dX11_safe_17 : decode cX11_safe 17 = .ok (.getfield 52, 3) := by decide +kernel
theorem dX11_safe_20 : decode cX11_safe 20 = .ok (.iload_n 2, 1) := by decide +kernel
theorem dX11_safe_21 : decode cX11_safe 21 = .ok (.invokevirtual 261, 3) := by decide +kernel
theorem dX11_safe_24 : decode cX11_safe 24 = .ok (.ior, 1) := by decide +kernel
theorem dX11_safe_25 : decode cX11_safe 25 = .ok (.istore_n 1, 1) := by decide +kernel
theorem dX11_safe_26 : decode cX11_safe 26 = .ok (.iinc 2 1, 3) := by decide +kernel
theorem dX11_safe_29 : decode cX11_safe 29 = .ok (.goto (-25), 3) := by decide +kernel
theorem dX11_safe_32 : decode cX11_safe 32 = .ok (.aload_n 0, 1) := by decide +kernel
theorem dX11_safe_33 : decode cX11_safe 33 = .ok (.getfield 52, 3) := by decide +kernel
theorem dX11_safe_36 : decode cX11_safe 36 = .ok (.invokevirtual 195, 3) := by decide +kernel
theorem dX11_safe_39 : decode cX11_safe 39 = .ok (.iload_n 1, 1) := by decide +kernel
theorem dX11_safe_40 : decode cX11_safe 40 = .ok (.iconst (-1), 1) := by decide +kernel
theorem dX11_safe_41 : decode cX11_safe 41 = .ok (.ixor, 1) := by decide +kernel
theorem dX11_safe_42 : decode cX11_safe 42 = .ok (.iand, 1) := by decide +kernel
theorem dX11_safe_43 : decode cX11_safe 43 = .ok (.ireturn, 1) := by decide +kernel
theorem dX11_havens_0 : decode cX11_havens 0 = .ok (.aload_n 0, 1) := by decide +kernel
theorem dX11_havens_1 : decode cX11_havens 1 = .ok (.iload_n 1, 1) := by decide +kernel
theorem dX11_havens_2 : decode cX11_havens 2 = .ok (.iconst 1, 1) := by decide +kernel
theorem dX11_havens_3 : decode cX11_havens 3 = .ok (.sipush 999, 3) := by decide +kernel
theorem dX11_havens_6 : decode cX11_havens 6 = .ok (.invokevirtual 182, 3) := by decide +kernel
theorem dX11_havens_9 : decode cX11_havens 9 = .ok (.aload_n 0, 1) := by decide +kernel
theorem dX11_havens_10 : decode cX11_havens 10 = .ok (.getfield 52, 3) := by decide +kernel
theorem dX11_havens_13 : decode cX11_havens 13 = .ok (.iload_n 1, 1) := by decide +kernel
theorem dX11_havens_14 : decode cX11_havens 14 = .ok (.invokevirtual 277, 3) := by decide +kernel
theorem dX11_havens_17 : decode cX11_havens 17 = .ok (.ireturn, 1) := by decide +kernel
theorem dX11_hungry_0 : decode cX11_hungry 0 = .ok (.iconst 0, 1) := by decide +kernel
theorem dX11_hungry_1 : decode cX11_hungry 1 = .ok (.istore_n 1, 1) := by decide +kernel
theorem dX11_hungry_2 : decode cX11_hungry 2 = .ok (.iconst 0, 1) := by decide +kernel
theorem dX11_hungry_3 : decode cX11_hungry 3 = .ok (.istore_n 2, 1) := by decide +kernel
theorem dX11_hungry_4 : decode cX11_hungry 4 = .ok (.iload_n 2, 1) := by decide +kernel
theorem dX11_hungry_5 : decode cX11_hungry 5 = .ok (.aload_n 0, 1) := by decide +kernel
theorem dX11_hungry_6 : decode cX11_hungry 6 = .ok (.getfield 19, 3) := by decide +kernel
theorem dX11_hungry_9 : decode cX11_hungry 9 = .ok (.getfield 165, 3) := by decide +kernel
theorem dX11_hungry_12 : decode cX11_hungry 12 = .ok (.if_icmp .ge 26, 3) := by decide +kernel
theorem dX11_hungry_15 : decode cX11_hungry 15 = .ok (.aload_n 0, 1) := by decide +kernel
theorem dX11_hungry_16 : decode cX11_hungry 16 = .ok (.getfield 52, 3) := by decide +kernel
theorem dX11_hungry_19 : decode cX11_hungry 19 = .ok (.iload_n 2, 1) := by decide +kernel
theorem dX11_hungry_20 : decode cX11_hungry 20 = .ok (.invokevirtual 261, 3) := by decide +kernel
theorem dX11_hungry_23 : decode cX11_hungry 23 = .ok (.ifCond .ne 9, 3) := by decide +kernel
theorem dX11_hungry_26 : decode cX11_hungry 26 = .ok (.iload_n 1, 1) := by decide +kernel
theorem dX11_hungry_27 : decode cX11_hungry 27 = .ok (.iconst 1, 1) := by decide +kernel
theorem dX11_hungry_28 : decode cX11_hungry 28 = .ok (.iload_n 2, 1) := by decide +kernel
theorem dX11_hungry_29 : decode cX11_hungry 29 = .ok (.ishl, 1) := by decide +kernel
theorem dX11_hungry_30 : decode cX11_hungry 30 = .ok (.ior, 1) := by decide +kernel
theorem dX11_hungry_31 : decode cX11_hungry 31 = .ok (.istore_n 1, 1) := by decide +kernel
theorem dX11_hungry_32 : decode cX11_hungry 32 = .ok (.iinc 2 1, 3) := by decide +kernel
theorem dX11_hungry_35 : decode cX11_hungry 35 = .ok (.goto (-31), 3) := by decide +kernel
theorem dX11_hungry_38 : decode cX11_hungry 38 = .ok (.iload_n 1, 1) := by decide +kernel
theorem dX11_hungry_39 : decode cX11_hungry 39 = .ok (.ireturn, 1) := by decide +kernel
theorem dX11_crowd_0 : decode cX11_crowd 0 = .ok (.aload_n 0, 1) := by decide +kernel
theorem dX11_crowd_1 : decode cX11_crowd 1 = .ok (.iload_n 1, 1) := by decide +kernel
theorem dX11_crowd_2 : decode cX11_crowd 2 = .ok (.iconst 0, 1) := by decide +kernel
theorem dX11_crowd_3 : decode cX11_crowd 3 = .ok (.iconst 1, 1) := by decide +kernel
theorem dX11_crowd_4 : decode cX11_crowd 4 = .ok (.invokevirtual 182, 3) := by decide +kernel
theorem dX11_crowd_7 : decode cX11_crowd 7 = .ok (.iconst 0, 1) := by decide +kernel
theorem dX11_crowd_8 : decode cX11_crowd 8 = .ok (.istore_n 2, 1) := by decide +kernel
theorem dX11_crowd_9 : decode cX11_crowd 9 = .ok (.iconst (-1), 1) := by decide +kernel
theorem dX11_crowd_10 : decode cX11_crowd 10 = .ok (.istore_n 3, 1) := by decide +kernel
theorem dX11_crowd_11 : decode cX11_crowd 11 = .ok (.iconst 0, 1) := by decide +kernel
theorem dX11_crowd_12 : decode cX11_crowd 12 = .ok (.istore 4, 2) := by decide +kernel
theorem dX11_crowd_14 : decode cX11_crowd 14 = .ok (.iload 4, 2) := by decide +kernel
theorem dX11_crowd_16 : decode cX11_crowd 16 = .ok (.aload_n 0, 1) := by decide +kernel
theorem dX11_crowd_17 : decode cX11_crowd 17 = .ok (.getfield 19, 3) := by decide +kernel
theorem dX11_crowd_20 : decode cX11_crowd 20 = .ok (.getfield 186, 3) := by decide +kernel
theorem dX11_crowd_23 : decode cX11_crowd 23 = .ok (.if_icmp .ge 35, 3) := by decide +kernel
theorem dX11_crowd_26 : decode cX11_crowd 26 = .ok (.aload_n 0, 1) := by decide +kernel
theorem dX11_crowd_27 : decode cX11_crowd 27 = .ok (.getfield 52, 3) := by decide +kernel
theorem dX11_crowd_30 : decode cX11_crowd 30 = .ok (.iload 4, 2) := by decide +kernel
theorem dX11_crowd_32 : decode cX11_crowd 32 = .ok (.invokevirtual 218, 3) := by decide +kernel
theorem dX11_crowd_35 : decode cX11_crowd 35 = .ok (.invokestatic 280, 3) := by decide +kernel
theorem dX11_crowd_38 : decode cX11_crowd 38 = .ok (.istore 5, 2) := by decide +kernel
theorem dX11_crowd_40 : decode cX11_crowd 40 = .ok (.iload 5, 2) := by decide +kernel
theorem dX11_crowd_42 : decode cX11_crowd 42 = .ok (.iload_n 2, 1) := by decide +kernel
theorem dX11_crowd_43 : decode cX11_crowd 43 = .ok (.if_icmp .le 9, 3) := by decide +kernel
theorem dX11_crowd_46 : decode cX11_crowd 46 = .ok (.iload 5, 2) := by decide +kernel
theorem dX11_crowd_48 : decode cX11_crowd 48 = .ok (.istore_n 2, 1) := by decide +kernel
theorem dX11_crowd_49 : decode cX11_crowd 49 = .ok (.iload 4, 2) := by decide +kernel
theorem dX11_crowd_51 : decode cX11_crowd 51 = .ok (.istore_n 3, 1) := by decide +kernel
theorem dX11_crowd_52 : decode cX11_crowd 52 = .ok (.iinc 4 1, 3) := by decide +kernel
theorem dX11_crowd_55 : decode cX11_crowd 55 = .ok (.goto (-41), 3) := by decide +kernel
theorem dX11_crowd_58 : decode cX11_crowd 58 = .ok (.iload_n 1, 1) := by decide +kernel
theorem dX11_crowd_59 : decode cX11_crowd 59 = .ok (.ifCond .eq 8, 3) := by decide +kernel
theorem dX11_crowd_62 : decode cX11_crowd 62 = .ok (.iload_n 3, 1) := by decide +kernel
theorem dX11_crowd_63 : decode cX11_crowd 63 = .ok (.iconst (-1), 1) := by decide +kernel
theorem dX11_crowd_64 : decode cX11_crowd 64 = .ok (.if_icmp .ne 7, 3) := by decide +kernel
theorem dX11_crowd_67 : decode cX11_crowd 67 = .ok (.iload_n 3, 1) := by decide +kernel
theorem dX11_crowd_68 : decode cX11_crowd 68 = .ok (.goto 4, 3) := by decide +kernel
theorem dX11_crowd_71 : decode cX11_crowd 71 = .ok (.iload_n 2, 1) := by decide +kernel
theorem dX11_crowd_72 : decode cX11_crowd 72 = .ok (.ireturn, 1) := by decide +kernel
theorem dX11_escapes_0 : decode cX11_escapes 0 = .ok (.aload_n 0, 1) := by decide +kernel
theorem dX11_escapes_1 : decode cX11_escapes 1 = .ok (.iload_n 1, 1) := by decide +kernel
theorem dX11_escapes_2 : decode cX11_escapes 2 = .ok (.aload_n 0, 1) := by decide +kernel
theorem dX11_escapes_3 : decode cX11_escapes 3 = .ok (.getfield 19, 3) := by decide +kernel
theorem dX11_escapes_6 : decode cX11_escapes 6 = .ok (.getfield 137, 3) := by decide +kernel
theorem dX11_escapes_9 : decode cX11_escapes 9 = .ok (.invokevirtual 211, 3) := by decide +kernel
theorem dX11_escapes_12 : decode cX11_escapes 12 = .ok (.aload_n 0, 1) := by decide +kernel
theorem dX11_escapes_13 : decode cX11_escapes 13 = .ok (.getfield 52, 3) := by decide +kernel
theorem dX11_escapes_16 : decode cX11_escapes 16 = .ok (.iload_n 1, 1) := by decide +kernel
theorem dX11_escapes_17 : decode cX11_escapes 17 = .ok (.invokevirtual 242, 3) := by decide +kernel
theorem dX11_escapes_20 : decode cX11_escapes 20 = .ok (.ifCond .ne 5, 3) := by decide +kernel
theorem dX11_escapes_23 : decode cX11_escapes 23 = .ok (.iconst 0, 1) := by decide +kernel
theorem dX11_escapes_24 : decode cX11_escapes 24 = .ok (.ireturn, 1) := by decide +kernel
theorem dX11_escapes_25 : decode cX11_escapes 25 = .ok (.aload_n 0, 1) := by decide +kernel
theorem dX11_escapes_26 : decode cX11_escapes 26 = .ok (.getfield 52, 3) := by decide +kernel
theorem dX11_escapes_29 : decode cX11_escapes 29 = .ok (.iload_n 1, 1) := by decide +kernel
theorem dX11_escapes_30 : decode cX11_escapes 30 = .ok (.invokevirtual 233, 3) := by decide +kernel
theorem dX11_escapes_33 : decode cX11_escapes 33 = .ok (.istore_n 2, 1) := by decide +kernel
theorem dX11_escapes_34 : decode cX11_escapes 34 = .ok (.aload_n 0, 1) := by decide +kernel
theorem dX11_escapes_35 : decode cX11_escapes 35 = .ok (.getfield 52, 3) := by decide +kernel
theorem dX11_escapes_38 : decode cX11_escapes 38 = .ok (.aload_n 0, 1) := by decide +kernel
theorem dX11_escapes_39 : decode cX11_escapes 39 = .ok (.getfield 52, 3) := by decide +kernel
theorem dX11_escapes_42 : decode cX11_escapes 42 = .ok (.iload_n 1, 1) := by decide +kernel
theorem dX11_escapes_43 : decode cX11_escapes 43 = .ok (.invokevirtual 236, 3) := by decide +kernel
theorem dX11_escapes_46 : decode cX11_escapes 46 = .ok (.invokevirtual 277, 3) := by decide +kernel
theorem dX11_escapes_49 : decode cX11_escapes 49 = .ok (.aload_n 0, 1) := by decide +kernel
theorem dX11_escapes_50 : decode cX11_escapes 50 = .ok (.getfield 52, 3) := by decide +kernel
theorem dX11_escapes_53 : decode cX11_escapes 53 = .ok (.iload_n 2, 1) := by decide +kernel
theorem dX11_escapes_54 : decode cX11_escapes 54 = .ok (.invokevirtual 224, 3) := by decide +kernel
theorem dX11_escapes_57 : decode cX11_escapes 57 = .ok (.iconst 1, 1) := by decide +kernel
theorem dX11_escapes_58 : decode cX11_escapes 58 = .ok (.iload_n 2, 1) := by decide +kernel
theorem dX11_escapes_59 : decode cX11_escapes 59 = .ok (.ishl, 1) := by decide +kernel
theorem dX11_escapes_60 : decode cX11_escapes 60 = .ok (.ior, 1) := by decide +kernel
theorem dX11_escapes_61 : decode cX11_escapes 61 = .ok (.iand, 1) := by decide +kernel
theorem dX11_escapes_62 : decode cX11_escapes 62 = .ok (.ireturn, 1) := by decide +kernel
theorem dX11_weight_0 : decode cX11_weight 0 = .ok (.aload_n 0, 1) := by decide +kernel
theorem dX11_weight_1 : decode cX11_weight 1 = .ok (.iload_n 1, 1) := by decide +kernel
theorem dX11_weight_2 : decode cX11_weight 2 = .ok (.aload_n 0, 1) := by decide +kernel
theorem dX11_weight_3 : decode cX11_weight 3 = .ok (.getfield 19, 3) := by decide +kernel
theorem dX11_weight_6 : decode cX11_weight 6 = .ok (.getfield 186, 3) := by decide +kernel
theorem dX11_weight_9 : decode cX11_weight 9 = .ok (.invokevirtual 211, 3) := by decide +kernel
theorem dX11_weight_12 : decode cX11_weight 12 = .ok (.aload_n 0, 1) := by decide +kernel
theorem dX11_weight_13 : decode cX11_weight 13 = .ok (.getfield 52, 3) := by decide +kernel
theorem dX11_weight_16 : decode cX11_weight 16 = .ok (.aload_n 0, 1) := by decide +kernel
theorem dX11_weight_17 : decode cX11_weight 17 = .ok (.getfield 52, 3) := by decide +kernel
theorem dX11_weight_20 : decode cX11_weight 20 = .ok (.iload_n 1, 1) := by decide +kernel
theorem dX11_weight_21 : decode cX11_weight 21 = .ok (.invokevirtual 218, 3) := by decide +kernel
theorem dX11_weight_24 : decode cX11_weight 24 = .ok (.invokevirtual 207, 3) := by decide +kernel
theorem dX11_weight_27 : decode cX11_weight 27 = .ok (.ireturn, 1) := by decide +kernel
theorem dX11_ahead_0 : decode cX11_ahead 0 = .ok (.aload_n 0, 1) := by decide +kernel
theorem dX11_ahead_1 : decode cX11_ahead 1 = .ok (.iload_n 1, 1) := by decide +kernel
theorem dX11_ahead_2 : decode cX11_ahead 2 = .ok (.iconst 0, 1) := by decide +kernel
theorem dX11_ahead_3 : decode cX11_ahead 3 = .ok (.bipush 99, 2) := by decide +kernel
theorem dX11_ahead_5 : decode cX11_ahead 5 = .ok (.invokevirtual 182, 3) := by decide +kernel
theorem dX11_ahead_8 : decode cX11_ahead 8 = .ok (.aload_n 0, 1) := by decide +kernel
theorem dX11_ahead_9 : decode cX11_ahead 9 = .ok (.iload_n 2, 1) := by decide +kernel
theorem dX11_ahead_10 : decode cX11_ahead 10 = .ok (.iconst 0, 1) := by decide +kernel
theorem dX11_ahead_11 : decode cX11_ahead 11 = .ok (.iconst 2, 1) := by decide +kernel
theorem dX11_ahead_12 : decode cX11_ahead 12 = .ok (.invokevirtual 182, 3) := by decide +kernel
theorem dX11_ahead_15 : decode cX11_ahead 15 = .ok (.aload_n 0, 1) := by decide +kernel
theorem dX11_ahead_16 : decode cX11_ahead 16 = .ok (.iload_n 1, 1) := by decide +kernel
theorem dX11_ahead_17 : decode cX11_ahead 17 = .ok (.invokevirtual 285, 3) := by decide +kernel
theorem dX11_ahead_20 : decode cX11_ahead 20 = .ok (.iload_n 2, 1) := by decide +kernel
theorem dX11_ahead_21 : decode cX11_ahead 21 = .ok (.lookupswitch 50 #[(0, 27), (1, 35)], 27) := by decide +kernel
theorem dX11_ahead_48 : decode cX11_ahead 48 = .ok (.aload_n 0, 1) := by decide +kernel
theorem dX11_ahead_49 : decode cX11_ahead 49 = .ok (.getfield 56, 3) := by decide +kernel
theorem dX11_ahead_52 : decode cX11_ahead 52 = .ok (.invokevirtual 195, 3) := by decide +kernel
theorem dX11_ahead_55 : decode cX11_ahead 55 = .ok (.ireturn, 1) := by decide +kernel
theorem dX11_ahead_56 : decode cX11_ahead 56 = .ok (.aload_n 0, 1) := by decide +kernel
theorem dX11_ahead_57 : decode cX11_ahead 57 = .ok (.getfield 56, 3) := by decide +kernel
theorem dX11_ahead_60 : decode cX11_ahead 60 = .ok (.aload_n 0, 1) := by decide +kernel
theorem dX11_ahead_61 : decode cX11_ahead 61 = .ok (.getfield 56, 3) := by decide +kernel
theorem dX11_ahead_64 : decode cX11_ahead 64 = .ok (.invokevirtual 195, 3) := by decide +kernel
theorem dX11_ahead_67 : decode cX11_ahead 67 = .ok (.invokevirtual 207, 3) := by decide +kernel
theorem dX11_ahead_70 : decode cX11_ahead 70 = .ok (.ireturn, 1) := by decide +kernel
theorem dX11_ahead_71 : decode cX11_ahead 71 = .ok (.aload_n 0, 1) := by decide +kernel
theorem dX11_ahead_72 : decode cX11_ahead 72 = .ok (.getfield 56, 3) := by decide +kernel
theorem dX11_ahead_75 : decode cX11_ahead 75 = .ok (.invokevirtual 198, 3) := by decide +kernel
theorem dX11_ahead_78 : decode cX11_ahead 78 = .ok (.invokestatic 280, 3) := by decide +kernel
theorem dX11_ahead_81 : decode cX11_ahead 81 = .ok (.ireturn, 1) := by decide +kernel
theorem dX11_grown_0 : decode cX11_grown 0 = .ok (.aload_n 0, 1) := by decide +kernel
theorem dX11_grown_1 : decode cX11_grown 1 = .ok (.iload_n 1, 1) := by decide +kernel
theorem dX11_grown_2 : decode cX11_grown 2 = .ok (.aload_n 0, 1) := by decide +kernel
theorem dX11_grown_3 : decode cX11_grown 3 = .ok (.getfield 19, 3) := by decide +kernel
theorem dX11_grown_6 : decode cX11_grown 6 = .ok (.getfield 137, 3) := by decide +kernel
theorem dX11_grown_9 : decode cX11_grown 9 = .ok (.invokevirtual 211, 3) := by decide +kernel
theorem dX11_grown_12 : decode cX11_grown 12 = .ok (.aload_n 0, 1) := by decide +kernel
theorem dX11_grown_13 : decode cX11_grown 13 = .ok (.iload_n 2, 1) := by decide +kernel
theorem dX11_grown_14 : decode cX11_grown 14 = .ok (.iconst 0, 1) := by decide +kernel
theorem dX11_grown_15 : decode cX11_grown 15 = .ok (.bipush 99, 2) := by decide +kernel
theorem dX11_grown_17 : decode cX11_grown 17 = .ok (.invokevirtual 182, 3) := by decide +kernel
theorem dX11_grown_20 : decode cX11_grown 20 = .ok (.aload_n 0, 1) := by decide +kernel
theorem dX11_grown_21 : decode cX11_grown 21 = .ok (.iload_n 2, 1) := by decide +kernel
theorem dX11_grown_22 : decode cX11_grown 22 = .ok (.invokevirtual 285, 3) := by decide +kernel
theorem dX11_grown_25 : decode cX11_grown 25 = .ok (.aload_n 0, 1) := by decide +kernel
theorem dX11_grown_26 : decode cX11_grown 26 = .ok (.getfield 56, 3) := by decide +kernel
theorem dX11_grown_29 : decode cX11_grown 29 = .ok (.iload_n 1, 1) := by decide +kernel
theorem dX11_grown_30 : decode cX11_grown 30 = .ok (.invokevirtual 242, 3) := by decide +kernel
theorem dX11_grown_33 : decode cX11_grown 33 = .ok (.ifCond .eq 14, 3) := by decide +kernel
theorem dX11_grown_36 : decode cX11_grown 36 = .ok (.aload_n 0, 1) := by decide +kernel
theorem dX11_grown_37 : decode cX11_grown 37 = .ok (.getfield 56, 3) := by decide +kernel
theorem dX11_grown_40 : decode cX11_grown 40 = .ok (.iload_n 1, 1) := by decide +kernel
theorem dX11_grown_41 : decode cX11_grown 41 = .ok (.invokevirtual 236, 3) := by decide +kernel
theorem dX11_grown_44 : decode cX11_grown 44 = .ok (.goto 4, 3) := by decide +kernel
theorem dX11_grown_47 : decode cX11_grown 47 = .ok (.iconst (-1), 1) := by decide +kernel
theorem dX11_grown_48 : decode cX11_grown 48 = .ok (.ireturn, 1) := by decide +kernel
theorem dX11_doomed_0 : decode cX11_doomed 0 = .ok (.aload_n 0, 1) := by decide +kernel
theorem dX11_doomed_1 : decode cX11_doomed 1 = .ok (.iconst 1, 1) := by decide +kernel
theorem dX11_doomed_2 : decode cX11_doomed 2 = .ok (.invokevirtual 285, 3) := by decide +kernel
theorem dX11_doomed_5 : decode cX11_doomed 5 = .ok (.aload_n 0, 1) := by decide +kernel
theorem dX11_doomed_6 : decode cX11_doomed 6 = .ok (.getfield 56, 3) := by decide +kernel
theorem dX11_doomed_9 : decode cX11_doomed 9 = .ok (.invokevirtual 198, 3) := by decide +kernel
theorem dX11_doomed_12 : decode cX11_doomed 12 = .ok (.aload_n 0, 1) := by decide +kernel
theorem dX11_doomed_13 : decode cX11_doomed 13 = .ok (.getfield 52, 3) := by decide +kernel
theorem dX11_doomed_16 : decode cX11_doomed 16 = .ok (.invokevirtual 198, 3) := by decide +kernel
theorem dX11_doomed_19 : decode cX11_doomed 19 = .ok (.iconst (-1), 1) := by decide +kernel
theorem dX11_doomed_20 : decode cX11_doomed 20 = .ok (.ixor, 1) := by decide +kernel
theorem dX11_doomed_21 : decode cX11_doomed 21 = .ok (.iand, 1) := by decide +kernel
theorem dX11_doomed_22 : decode cX11_doomed 22 = .ok (.ireturn, 1) := by decide +kernel
theorem dX11_far_0 : decode cX11_far 0 = .ok (.aload_n 0, 1) := by decide +kernel
theorem dX11_far_1 : decode cX11_far 1 = .ok (.iload_n 1, 1) := by decide +kernel
theorem dX11_far_2 : decode cX11_far 2 = .ok (.aload_n 0, 1) := by decide +kernel
theorem dX11_far_3 : decode cX11_far 3 = .ok (.getfield 19, 3) := by decide +kernel
theorem dX11_far_6 : decode cX11_far 6 = .ok (.getfield 186, 3) := by decide +kernel
theorem dX11_far_9 : decode cX11_far 9 = .ok (.invokevirtual 211, 3) := by decide +kernel
theorem dX11_far_12 : decode cX11_far 12 = .ok (.aload_n 0, 1) := by decide +kernel
theorem dX11_far_13 : decode cX11_far 13 = .ok (.iload_n 2, 1) := by decide +kernel
theorem dX11_far_14 : decode cX11_far 14 = .ok (.aload_n 0, 1) := by decide +kernel
theorem dX11_far_15 : decode cX11_far 15 = .ok (.getfield 19, 3) := by decide +kernel
theorem dX11_far_18 : decode cX11_far 18 = .ok (.getfield 186, 3) := by decide +kernel
theorem dX11_far_21 : decode cX11_far 21 = .ok (.invokevirtual 211, 3) := by decide +kernel
theorem dX11_far_24 : decode cX11_far 24 = .ok (.aload_n 0, 1) := by decide +kernel
theorem dX11_far_25 : decode cX11_far 25 = .ok (.getfield 52, 3) := by decide +kernel
theorem dX11_far_28 : decode cX11_far 28 = .ok (.iload_n 1, 1) := by decide +kernel
theorem dX11_far_29 : decode cX11_far 29 = .ok (.iload_n 2, 1) := by decide +kernel
theorem dX11_far_30 : decode cX11_far 30 = .ok (.invokevirtual 288, 3) := by decide +kernel
theorem dX11_far_33 : decode cX11_far 33 = .ok (.ireturn, 1) := by decide +kernel
theorem dX11_lasts_0 : decode cX11_lasts 0 = .ok (.aload_n 0, 1) := by decide +kernel
theorem dX11_lasts_1 : decode cX11_lasts 1 = .ok (.iload_n 1, 1) := by decide +kernel
theorem dX11_lasts_2 : decode cX11_lasts 2 = .ok (.aload_n 0, 1) := by decide +kernel
theorem dX11_lasts_3 : decode cX11_lasts 3 = .ok (.getfield 19, 3) := by decide +kernel
theorem dX11_lasts_6 : decode cX11_lasts 6 = .ok (.getfield 137, 3) := by decide +kernel
theorem dX11_lasts_9 : decode cX11_lasts 9 = .ok (.invokevirtual 211, 3) := by decide +kernel
theorem dX11_lasts_12 : decode cX11_lasts 12 = .ok (.aload_n 0, 1) := by decide +kernel
theorem dX11_lasts_13 : decode cX11_lasts 13 = .ok (.getfield 52, 3) := by decide +kernel
theorem dX11_lasts_16 : decode cX11_lasts 16 = .ok (.iload_n 1, 1) := by decide +kernel
theorem dX11_lasts_17 : decode cX11_lasts 17 = .ok (.invokevirtual 242, 3) := by decide +kernel
theorem dX11_lasts_20 : decode cX11_lasts 20 = .ok (.ifCond .ne 5, 3) := by decide +kernel
theorem dX11_lasts_23 : decode cX11_lasts 23 = .ok (.iconst (-1), 1) := by decide +kernel
theorem dX11_lasts_24 : decode cX11_lasts 24 = .ok (.ireturn, 1) := by decide +kernel
theorem dX11_lasts_25 : decode cX11_lasts 25 = .ok (.aload_n 0, 1) := by decide +kernel
theorem dX11_lasts_26 : decode cX11_lasts 26 = .ok (.getfield 56, 3) := by decide +kernel
theorem dX11_lasts_29 : decode cX11_lasts 29 = .ok (.aload_n 0, 1) := by decide +kernel
theorem dX11_lasts_30 : decode cX11_lasts 30 = .ok (.getfield 52, 3) := by decide +kernel
theorem dX11_lasts_33 : decode cX11_lasts 33 = .ok (.invokevirtual 292, 3) := by decide +kernel
theorem dX11_lasts_36 : decode cX11_lasts 36 = .ok (.iconst 1, 1) := by decide +kernel
theorem dX11_lasts_37 : decode cX11_lasts 37 = .ok (.istore_n 2, 1) := by decide +kernel
theorem dX11_lasts_38 : decode cX11_lasts 38 = .ok (.iload_n 2, 1) := by decide +kernel
theorem dX11_lasts_39 : decode cX11_lasts 39 = .ok (.bipush 99, 2) := by decide +kernel
theorem dX11_lasts_41 : decode cX11_lasts 41 = .ok (.if_icmp .gt 30, 3) := by decide +kernel
theorem dX11_lasts_44 : decode cX11_lasts 44 = .ok (.aload_n 0, 1) := by decide +kernel
theorem dX11_lasts_45 : decode cX11_lasts 45 = .ok (.getfield 56, 3) := by decide +kernel
theorem dX11_lasts_48 : decode cX11_lasts 48 = .ok (.invokevirtual 294, 3) := by decide +kernel
theorem dX11_lasts_51 : decode cX11_lasts 51 = .ok (.pop, 1) := by decide +kernel
theorem dX11_lasts_52 : decode cX11_lasts 52 = .ok (.aload_n 0, 1) := by decide +kernel
theorem dX11_lasts_53 : decode cX11_lasts 53 = .ok (.getfield 56, 3) := by decide +kernel
theorem dX11_lasts_56 : decode cX11_lasts 56 = .ok (.iload_n 1, 1) := by decide +kernel
theorem dX11_lasts_57 : decode cX11_lasts 57 = .ok (.invokevirtual 242, 3) := by decide +kernel
theorem dX11_lasts_60 : decode cX11_lasts 60 = .ok (.ifCond .ne 5, 3) := by decide +kernel
theorem dX11_lasts_63 : decode cX11_lasts 63 = .ok (.iload_n 2, 1) := by decide +kernel
theorem dX11_lasts_64 : decode cX11_lasts 64 = .ok (.ireturn, 1) := by decide +kernel
theorem dX11_lasts_65 : decode cX11_lasts 65 = .ok (.iinc 2 1, 3) := by decide +kernel
theorem dX11_lasts_68 : decode cX11_lasts 68 = .ok (.goto (-30), 3) := by decide +kernel
theorem dX11_lasts_71 : decode cX11_lasts 71 = .ok (.iconst (-1), 1) := by decide +kernel
theorem dX11_lasts_72 : decode cX11_lasts 72 = .ok (.ireturn, 1) := by decide +kernel
theorem dX11_slips_0 : decode cX11_slips 0 = .ok (.aload_n 0, 1) := by decide +kernel
theorem dX11_slips_1 : decode cX11_slips 1 = .ok (.iload_n 1, 1) := by decide +kernel
theorem dX11_slips_2 : decode cX11_slips 2 = .ok (.aload_n 0, 1) := by decide +kernel
theorem dX11_slips_3 : decode cX11_slips 3 = .ok (.getfield 19, 3) := by decide +kernel
theorem dX11_slips_6 : decode cX11_slips 6 = .ok (.getfield 137, 3) := by decide +kernel
theorem dX11_slips_9 : decode cX11_slips 9 = .ok (.invokevirtual 211, 3) := by decide +kernel
theorem dX11_slips_12 : decode cX11_slips 12 = .ok (.aload_n 0, 1) := by decide +kernel
theorem dX11_slips_13 : decode cX11_slips 13 = .ok (.iload_n 2, 1) := by decide +kernel
theorem dX11_slips_14 : decode cX11_slips 14 = .ok (.aload_n 0, 1) := by decide +kernel
theorem dX11_slips_15 : decode cX11_slips 15 = .ok (.getfield 19, 3) := by decide +kernel
theorem dX11_slips_18 : decode cX11_slips 18 = .ok (.getfield 186, 3) := by decide +kernel
theorem dX11_slips_21 : decode cX11_slips 21 = .ok (.invokevirtual 211, 3) := by decide +kernel
theorem dX11_slips_24 : decode cX11_slips 24 = .ok (.aload_n 0, 1) := by decide +kernel
theorem dX11_slips_25 : decode cX11_slips 25 = .ok (.getfield 56, 3) := by decide +kernel
theorem dX11_slips_28 : decode cX11_slips 28 = .ok (.aload_n 0, 1) := by decide +kernel
theorem dX11_slips_29 : decode cX11_slips 29 = .ok (.getfield 52, 3) := by decide +kernel
theorem dX11_slips_32 : decode cX11_slips 32 = .ok (.invokevirtual 292, 3) := by decide +kernel
theorem dX11_slips_35 : decode cX11_slips 35 = .ok (.aload_n 0, 1) := by decide +kernel
theorem dX11_slips_36 : decode cX11_slips 36 = .ok (.getfield 69, 3) := by decide +kernel
theorem dX11_slips_39 : decode cX11_slips 39 = .ok (.aload_n 0, 1) := by decide +kernel
theorem dX11_slips_40 : decode cX11_slips 40 = .ok (.getfield 56, 3) := by decide +kernel
theorem dX11_slips_43 : decode cX11_slips 43 = .ok (.iload_n 1, 1) := by decide +kernel
theorem dX11_slips_44 : decode cX11_slips 44 = .ok (.iload_n 2, 1) := by decide +kernel
theorem dX11_slips_45 : decode cX11_slips 45 = .ok (.invokevirtual 297, 3) := by decide +kernel
theorem dX11_slips_48 : decode cX11_slips 48 = .ok (.ireturn, 1) := by decide +kernel
theorem dX11_hunt_0 : decode cX11_hunt 0 = .ok (.aload_n 0, 1) := by decide +kernel
theorem dX11_hunt_1 : decode cX11_hunt 1 = .ok (.iload_n 1, 1) := by decide +kernel
theorem dX11_hunt_2 : decode cX11_hunt 2 = .ok (.iconst 0, 1) := by decide +kernel
theorem dX11_hunt_3 : decode cX11_hunt 3 = .ok (.iconst 1, 1) := by decide +kernel
theorem dX11_hunt_4 : decode cX11_hunt 4 = .ok (.invokevirtual 182, 3) := by decide +kernel
theorem dX11_hunt_7 : decode cX11_hunt 7 = .ok (.aload_n 0, 1) := by decide +kernel
theorem dX11_hunt_8 : decode cX11_hunt 8 = .ok (.getfield 78, 3) := by decide +kernel
theorem dX11_hunt_11 : decode cX11_hunt 11 = .ok (.aload_n 0, 1) := by decide +kernel
theorem dX11_hunt_12 : decode cX11_hunt 12 = .ok (.getfield 52, 3) := by decide +kernel
theorem dX11_hunt_15 : decode cX11_hunt 15 = .ok (.invokevirtual 301, 3) := by decide +kernel
theorem dX11_hunt_18 : decode cX11_hunt 18 = .ok (.iload_n 1, 1) := by decide +kernel
theorem dX11_hunt_19 : decode cX11_hunt 19 = .ok (.ifCond .ne 13, 3) := by decide +kernel
theorem dX11_hunt_22 : decode cX11_hunt 22 = .ok (.aload_n 0, 1) := by decide +kernel
theorem dX11_hunt_23 : decode cX11_hunt 23 = .ok (.getfield 78, 3) := by decide +kernel
theorem dX11_hunt_26 : decode cX11_hunt 26 = .ok (.getfield 304, 3) := by decide +kernel
theorem dX11_hunt_29 : decode cX11_hunt 29 = .ok (.goto 10, 3) := by decide +kernel
theorem dX11_hunt_32 : decode cX11_hunt 32 = .ok (.aload_n 0, 1) := by decide +kernel
theorem dX11_hunt_33 : decode cX11_hunt 33 = .ok (.getfield 78, 3) := by decide +kernel
theorem dX11_hunt_36 : decode cX11_hunt 36 = .ok (.getfield 307, 3) := by decide +kernel
theorem dX11_hunt_39 : decode cX11_hunt 39 = .ok (.ireturn, 1) := by decide +kernel
theorem dX11_prey_0 : decode cX11_prey 0 = .ok (.aload_n 0, 1) := by decide +kernel
theorem dX11_prey_1 : decode cX11_prey 1 = .ok (.iload_n 1, 1) := by decide +kernel
theorem dX11_prey_2 : decode cX11_prey 2 = .ok (.aload_n 0, 1) := by decide +kernel
theorem dX11_prey_3 : decode cX11_prey 3 = .ok (.getfield 19, 3) := by decide +kernel
theorem dX11_prey_6 : decode cX11_prey 6 = .ok (.getfield 165, 3) := by decide +kernel
theorem dX11_prey_9 : decode cX11_prey 9 = .ok (.invokevirtual 211, 3) := by decide +kernel
theorem dX11_prey_12 : decode cX11_prey 12 = .ok (.aload_n 0, 1) := by decide +kernel
theorem dX11_prey_13 : decode cX11_prey 13 = .ok (.getfield 78, 3) := by decide +kernel
theorem dX11_prey_16 : decode cX11_prey 16 = .ok (.aload_n 0, 1) := by decide +kernel
theorem dX11_prey_17 : decode cX11_prey 17 = .ok (.getfield 52, 3) := by decide +kernel
theorem dX11_prey_20 : decode cX11_prey 20 = .ok (.invokevirtual 301, 3) := by decide +kernel
theorem dX11_prey_23 : decode cX11_prey 23 = .ok (.aload_n 0, 1) := by decide +kernel
theorem dX11_prey_24 : decode cX11_prey 24 = .ok (.getfield 78, 3) := by decide +kernel
theorem dX11_prey_27 : decode cX11_prey 27 = .ok (.getfield 310, 3) := by decide +kernel
theorem dX11_prey_30 : decode cX11_prey 30 = .ok (.iload_n 1, 1) := by decide +kernel
theorem dX11_prey_31 : decode cX11_prey 31 = .ok (.iaload, 1) := by decide +kernel
theorem dX11_prey_32 : decode cX11_prey 32 = .ok (.ireturn, 1) := by decide +kernel
theorem dX11_sums_0 : decode cX11_sums 0 = .ok (.aload_n 0, 1) := by decide +kernel
theorem dX11_sums_1 : decode cX11_sums 1 = .ok (.iload_n 1, 1) := by decide +kernel
theorem dX11_sums_2 : decode cX11_sums 2 = .ok (.aload_n 0, 1) := by decide +kernel
theorem dX11_sums_3 : decode cX11_sums 3 = .ok (.getfield 19, 3) := by decide +kernel
theorem dX11_sums_6 : decode cX11_sums 6 = .ok (.getfield 186, 3) := by decide +kernel
theorem dX11_sums_9 : decode cX11_sums 9 = .ok (.invokevirtual 211, 3) := by decide +kernel
theorem dX11_sums_12 : decode cX11_sums 12 = .ok (.aload_n 0, 1) := by decide +kernel
theorem dX11_sums_13 : decode cX11_sums 13 = .ok (.iload_n 2, 1) := by decide +kernel
theorem dX11_sums_14 : decode cX11_sums 14 = .ok (.iconst 0, 1) := by decide +kernel
theorem dX11_sums_15 : decode cX11_sums 15 = .ok (.sipush 999, 3) := by decide +kernel
theorem dX11_sums_18 : decode cX11_sums 18 = .ok (.invokevirtual 182, 3) := by decide +kernel
theorem dX11_sums_21 : decode cX11_sums 21 = .ok (.aload_n 0, 1) := by decide +kernel
theorem dX11_sums_22 : decode cX11_sums 22 = .ok (.getfield 52, 3) := by decide +kernel
theorem dX11_sums_25 : decode cX11_sums 25 = .ok (.iload_n 1, 1) := by decide +kernel
theorem dX11_sums_26 : decode cX11_sums 26 = .ok (.invokevirtual 218, 3) := by decide +kernel
theorem dX11_sums_29 : decode cX11_sums 29 = .ok (.istore_n 3, 1) := by decide +kernel
theorem dX11_sums_30 : decode cX11_sums 30 = .ok (.iconst 0, 1) := by decide +kernel
theorem dX11_sums_31 : decode cX11_sums 31 = .ok (.istore 4, 2) := by decide +kernel
theorem dX11_sums_33 : decode cX11_sums 33 = .ok (.iconst 0, 1) := by decide +kernel
theorem dX11_sums_34 : decode cX11_sums 34 = .ok (.istore 5, 2) := by decide +kernel
theorem dX11_sums_36 : decode cX11_sums 36 = .ok (.iload 5, 2) := by decide +kernel
theorem dX11_sums_38 : decode cX11_sums 38 = .ok (.iconst 1, 1) := by decide +kernel
theorem dX11_sums_39 : decode cX11_sums 39 = .ok (.aload_n 0, 1) := by decide +kernel
theorem dX11_sums_40 : decode cX11_sums 40 = .ok (.getfield 19, 3) := by decide +kernel
theorem dX11_sums_43 : decode cX11_sums 43 = .ok (.getfield 137, 3) := by decide +kernel
theorem dX11_sums_46 : decode cX11_sums 46 = .ok (.ishl, 1) := by decide +kernel
theorem dX11_sums_47 : decode cX11_sums 47 = .ok (.if_icmp .ge 34, 3) := by decide +kernel
theorem dX11_sums_50 : decode cX11_sums 50 = .ok (.iload 5, 2) := by decide +kernel
theorem dX11_sums_52 : decode cX11_sums 52 = .ok (.iload_n 3, 1) := by decide +kernel
theorem dX11_sums_53 : decode cX11_sums 53 = .ok (.iconst (-1), 1) := by decide +kernel
theorem dX11_sums_54 : decode cX11_sums 54 = .ok (.ixor, 1) := by decide +kernel
theorem dX11_sums_55 : decode cX11_sums 55 = .ok (.iand, 1) := by decide +kernel
theorem dX11_sums_56 : decode cX11_sums 56 = .ok (.ifCond .ne 19, 3) := by decide +kernel
theorem dX11_sums_59 : decode cX11_sums 59 = .ok (.aload_n 0, 1) := by decide +kernel
theorem dX11_sums_60 : decode cX11_sums 60 = .ok (.getfield 52, 3) := by decide +kernel
theorem dX11_sums_63 : decode cX11_sums 63 = .ok (.iload 5, 2) := by decide +kernel
theorem dX11_sums_65 : decode cX11_sums 65 = .ok (.invokevirtual 207, 3) := by decide +kernel
theorem dX11_sums_68 : decode cX11_sums 68 = .ok (.iload_n 2, 1) := by decide +kernel
theorem dX11_sums_69 : decode cX11_sums 69 = .ok (.if_icmp .ne 6, 3) := by decide +kernel
theorem dX11_sums_72 : decode cX11_sums 72 = .ok (.iinc 4 1, 3) := by decide +kernel
theorem dX11_sums_75 : decode cX11_sums 75 = .ok (.iinc 5 1, 3) := by decide +kernel
theorem dX11_sums_78 : decode cX11_sums 78 = .ok (.goto (-42), 3) := by decide +kernel
theorem dX11_sums_81 : decode cX11_sums 81 = .ok (.iload 4, 2) := by decide +kernel
theorem dX11_sums_83 : decode cX11_sums 83 = .ok (.ireturn, 1) := by decide +kernel
theorem dX11_fits_0 : decode cX11_fits 0 = .ok (.aload_n 0, 1) := by decide +kernel
theorem dX11_fits_1 : decode cX11_fits 1 = .ok (.iload_n 1, 1) := by decide +kernel
theorem dX11_fits_2 : decode cX11_fits 2 = .ok (.iconst 0, 1) := by decide +kernel
theorem dX11_fits_3 : decode cX11_fits 3 = .ok (.iconst 1, 1) := by decide +kernel
theorem dX11_fits_4 : decode cX11_fits 4 = .ok (.invokevirtual 182, 3) := by decide +kernel
theorem dX11_fits_7 : decode cX11_fits 7 = .ok (.aload_n 0, 1) := by decide +kernel
theorem dX11_fits_8 : decode cX11_fits 8 = .ok (.getfield 85, 3) := by decide +kernel
theorem dX11_fits_11 : decode cX11_fits 11 = .ok (.aload_n 0, 1) := by decide +kernel
theorem dX11_fits_12 : decode cX11_fits 12 = .ok (.getfield 52, 3) := by decide +kernel
theorem dX11_fits_15 : decode cX11_fits 15 = .ok (.aload_n 0, 1) := by decide +kernel
theorem dX11_fits_16 : decode cX11_fits 16 = .ok (.getfield 56, 3) := by decide +kernel
theorem dX11_fits_19 : decode cX11_fits 19 = .ok (.aload_n 0, 1) := by decide +kernel
theorem dX11_fits_20 : decode cX11_fits 20 = .ok (.getfield 36, 3) := by decide +kernel
theorem dX11_fits_23 : decode cX11_fits 23 = .ok (.invokevirtual 313, 3) := by decide +kernel
theorem dX11_fits_26 : decode cX11_fits 26 = .ok (.iload_n 1, 1) := by decide +kernel
theorem dX11_fits_27 : decode cX11_fits 27 = .ok (.ifCond .ne 13, 3) := by decide +kernel
theorem dX11_fits_30 : decode cX11_fits 30 = .ok (.aload_n 0, 1) := by decide +kernel
theorem dX11_fits_31 : decode cX11_fits 31 = .ok (.getfield 85, 3) := by decide +kernel
theorem dX11_fits_34 : decode cX11_fits 34 = .ok (.getfield 317, 3) := by decide +kernel
theorem dX11_fits_37 : decode cX11_fits 37 = .ok (.goto 10, 3) := by decide +kernel
theorem dX11_fits_40 : decode cX11_fits 40 = .ok (.aload_n 0, 1) := by decide +kernel
theorem dX11_fits_41 : decode cX11_fits 41 = .ok (.getfield 85, 3) := by decide +kernel
theorem dX11_fits_44 : decode cX11_fits 44 = .ok (.getfield 320, 3) := by decide +kernel
theorem dX11_fits_47 : decode cX11_fits 47 = .ok (.ireturn, 1) := by decide +kernel
theorem dX11_look_0 : decode cX11_look 0 = .ok (.aload_n 0, 1) := by decide +kernel
theorem dX11_look_1 : decode cX11_look 1 = .ok (.iload_n 1, 1) := by decide +kernel
theorem dX11_look_2 : decode cX11_look 2 = .ok (.iconst 0, 1) := by decide +kernel
theorem dX11_look_3 : decode cX11_look 3 = .ok (.iconst 1, 1) := by decide +kernel
theorem dX11_look_4 : decode cX11_look 4 = .ok (.invokevirtual 182, 3) := by decide +kernel
theorem dX11_look_7 : decode cX11_look 7 = .ok (.aload_n 0, 1) := by decide +kernel
theorem dX11_look_8 : decode cX11_look 8 = .ok (.getfield 85, 3) := by decide +kernel
theorem dX11_look_11 : decode cX11_look 11 = .ok (.aload_n 0, 1) := by decide +kernel
theorem dX11_look_12 : decode cX11_look 12 = .ok (.getfield 52, 3) := by decide +kernel
theorem dX11_look_15 : decode cX11_look 15 = .ok (.aload_n 0, 1) := by decide +kernel
theorem dX11_look_16 : decode cX11_look 16 = .ok (.getfield 56, 3) := by decide +kernel
theorem dX11_look_19 : decode cX11_look 19 = .ok (.aload_n 0, 1) := by decide +kernel
theorem dX11_look_20 : decode cX11_look 20 = .ok (.getfield 36, 3) := by decide +kernel
theorem dX11_look_23 : decode cX11_look 23 = .ok (.invokevirtual 313, 3) := by decide +kernel
theorem dX11_look_26 : decode cX11_look 26 = .ok (.aload_n 0, 1) := by decide +kernel
theorem dX11_look_27 : decode cX11_look 27 = .ok (.getfield 85, 3) := by decide +kernel
theorem dX11_look_30 : decode cX11_look 30 = .ok (.aload_n 0, 1) := by decide +kernel
theorem dX11_look_31 : decode cX11_look 31 = .ok (.getfield 36, 3) := by decide +kernel
theorem dX11_look_34 : decode cX11_look 34 = .ok (.invokevirtual 323, 3) := by decide +kernel
theorem dX11_look_37 : decode cX11_look 37 = .ok (.istore_n 2, 1) := by decide +kernel
theorem dX11_look_38 : decode cX11_look 38 = .ok (.iload_n 1, 1) := by decide +kernel
theorem dX11_look_39 : decode cX11_look 39 = .ok (.ifCond .eq 8, 3) := by decide +kernel
theorem dX11_look_42 : decode cX11_look 42 = .ok (.iload_n 2, 1) := by decide +kernel
theorem dX11_look_43 : decode cX11_look 43 = .ok (.iconst (-1), 1) := by decide +kernel
theorem dX11_look_44 : decode cX11_look 44 = .ok (.if_icmp .ne 7, 3) := by decide +kernel
theorem dX11_look_47 : decode cX11_look 47 = .ok (.iload_n 2, 1) := by decide +kernel
theorem dX11_look_48 : decode cX11_look 48 = .ok (.goto 11, 3) := by decide +kernel
theorem dX11_look_51 : decode cX11_look 51 = .ok (.aload_n 0, 1) := by decide +kernel
theorem dX11_look_52 : decode cX11_look 52 = .ok (.getfield 85, 3) := by decide +kernel
theorem dX11_look_55 : decode cX11_look 55 = .ok (.iload_n 2, 1) := by decide +kernel
theorem dX11_look_56 : decode cX11_look 56 = .ok (.invokevirtual 327, 3) := by decide +kernel
theorem dX11_look_59 : decode cX11_look 59 = .ok (.ireturn, 1) := by decide +kernel
theorem dX11_season_0 : decode cX11_season 0 = .ok (.aload_n 0, 1) := by decide +kernel
theorem dX11_season_1 : decode cX11_season 1 = .ok (.iload_n 2, 1) := by decide +kernel
theorem dX11_season_2 : decode cX11_season 2 = .ok (.iconst 1, 1) := by decide +kernel
theorem dX11_season_3 : decode cX11_season 3 = .ok (.bipush 96, 2) := by decide +kernel
theorem dX11_season_5 : decode cX11_season 5 = .ok (.invokevirtual 182, 3) := by decide +kernel
theorem dX11_season_8 : decode cX11_season 8 = .ok (.aload_n 0, 1) := by decide +kernel
theorem dX11_season_9 : decode cX11_season 9 = .ok (.iload_n 3, 1) := by decide +kernel
theorem dX11_season_10 : decode cX11_season 10 = .ok (.iconst 0, 1) := by decide +kernel
theorem dX11_season_11 : decode cX11_season 11 = .ok (.bipush 16, 2) := by decide +kernel
theorem dX11_season_13 : decode cX11_season 13 = .ok (.invokevirtual 182, 3) := by decide +kernel
theorem dX11_season_16 : decode cX11_season 16 = .ok (.aload_n 0, 1) := by decide +kernel
theorem dX11_season_17 : decode cX11_season 17 = .ok (.iload 4, 2) := by decide +kernel
theorem dX11_season_19 : decode cX11_season 19 = .ok (.iconst 0, 1) := by decide +kernel
theorem dX11_season_20 : decode cX11_season 20 = .ok (.iconst 3, 1) := by decide +kernel
theorem dX11_season_21 : decode cX11_season 21 = .ok (.invokevirtual 182, 3) := by decide +kernel
theorem dX11_season_24 : decode cX11_season 24 = .ok (.aload_n 0, 1) := by decide +kernel
theorem dX11_season_25 : decode cX11_season 25 = .ok (.getfield 56, 3) := by decide +kernel
theorem dX11_season_28 : decode cX11_season 28 = .ok (.aload_n 0, 1) := by decide +kernel
theorem dX11_season_29 : decode cX11_season 29 = .ok (.getfield 52, 3) := by decide +kernel
theorem dX11_season_32 : decode cX11_season 32 = .ok (.invokevirtual 292, 3) := by decide +kernel
theorem dX11_season_35 : decode cX11_season 35 = .ok (.aload_n 0, 1) := by decide +kernel
theorem dX11_season_36 : decode cX11_season 36 = .ok (.getfield 92, 3) := by decide +kernel
theorem dX11_season_39 : decode cX11_season 39 = .ok (.aload_n 0, 1) := by decide +kernel
theorem dX11_season_40 : decode cX11_season 40 = .ok (.getfield 56, 3) := by decide +kernel
theorem dX11_season_43 : decode cX11_season 43 = .ok (.iload_n 1, 1) := by decide +kernel
theorem dX11_season_44 : decode cX11_season 44 = .ok (.iload_n 2, 1) := by decide +kernel
theorem dX11_season_45 : decode cX11_season 45 = .ok (.iload_n 3, 1) := by decide +kernel
theorem dX11_season_46 : decode cX11_season 46 = .ok (.invokevirtual 330, 3) := by decide +kernel
theorem dX11_season_49 : decode cX11_season 49 = .ok (.iload 4, 2) := by decide +kernel
theorem dX11_season_51 : decode cX11_season 51 = .ok (.tableswitch 59 0 2 #[25, 33, 48], 25) := by decide +kernel
theorem dX11_season_76 : decode cX11_season 76 = .ok (.aload_n 0, 1) := by decide +kernel
theorem dX11_season_77 : decode cX11_season 77 = .ok (.getfield 56, 3) := by decide +kernel
theorem dX11_season_80 : decode cX11_season 80 = .ok (.invokevirtual 195, 3) := by decide +kernel
theorem dX11_season_83 : decode cX11_season 83 = .ok (.ireturn, 1) := by decide +kernel
theorem dX11_season_84 : decode cX11_season 84 = .ok (.aload_n 0, 1) := by decide +kernel
theorem dX11_season_85 : decode cX11_season 85 = .ok (.getfield 56, 3) := by decide +kernel
theorem dX11_season_88 : decode cX11_season 88 = .ok (.aload_n 0, 1) := by decide +kernel
theorem dX11_season_89 : decode cX11_season 89 = .ok (.getfield 56, 3) := by decide +kernel
theorem dX11_season_92 : decode cX11_season 92 = .ok (.invokevirtual 195, 3) := by decide +kernel
theorem dX11_season_95 : decode cX11_season 95 = .ok (.invokevirtual 207, 3) := by decide +kernel
theorem dX11_season_98 : decode cX11_season 98 = .ok (.ireturn, 1) := by decide +kernel
theorem dX11_season_99 : decode cX11_season 99 = .ok (.aload_n 0, 1) := by decide +kernel
theorem dX11_season_100 : decode cX11_season 100 = .ok (.getfield 56, 3) := by decide +kernel
theorem dX11_season_103 : decode cX11_season 103 = .ok (.invokevirtual 198, 3) := by decide +kernel
theorem dX11_season_106 : decode cX11_season 106 = .ok (.invokestatic 280, 3) := by decide +kernel
theorem dX11_season_109 : decode cX11_season 109 = .ok (.ireturn, 1) := by decide +kernel
theorem dX11_season_110 : decode cX11_season 110 = .ok (.aload_n 0, 1) := by decide +kernel
theorem dX11_season_111 : decode cX11_season 111 = .ok (.getfield 56, 3) := by decide +kernel
theorem dX11_season_114 : decode cX11_season 114 = .ok (.invokevirtual 274, 3) := by decide +kernel
theorem dX11_season_117 : decode cX11_season 117 = .ok (.ireturn, 1) := by decide +kernel
theorem dX11_span_0 : decode cX11_span 0 = .ok (.aload_n 0, 1) := by decide +kernel
theorem dX11_span_1 : decode cX11_span 1 = .ok (.iload_n 2, 1) := by decide +kernel
theorem dX11_span_2 : decode cX11_span 2 = .ok (.iconst 1, 1) := by decide +kernel
theorem dX11_span_3 : decode cX11_span 3 = .ok (.bipush 20, 2) := by decide +kernel
theorem dX11_span_5 : decode cX11_span 5 = .ok (.invokevirtual 182, 3) := by decide +kernel
theorem dX11_span_8 : decode cX11_span 8 = .ok (.aload_n 0, 1) := by decide +kernel
theorem dX11_span_9 : decode cX11_span 9 = .ok (.iload_n 3, 1) := by decide +kernel
theorem dX11_span_10 : decode cX11_span 10 = .ok (.iconst 1, 1) := by decide +kernel
theorem dX11_span_11 : decode cX11_span 11 = .ok (.bipush 96, 2) := by decide +kernel
theorem dX11_span_13 : decode cX11_span 13 = .ok (.invokevirtual 182, 3) := by decide +kernel
theorem dX11_span_16 : decode cX11_span 16 = .ok (.aload_n 0, 1) := by decide +kernel
theorem dX11_span_17 : decode cX11_span 17 = .ok (.iload 4, 2) := by decide +kernel
theorem dX11_span_19 : decode cX11_span 19 = .ok (.iconst 0, 1) := by decide +kernel
theorem dX11_span_20 : decode cX11_span 20 = .ok (.bipush 16, 2) := by decide +kernel
theorem dX11_span_22 : decode cX11_span 22 = .ok (.invokevirtual 182, 3) := by decide +kernel
theorem dX11_span_25 : decode cX11_span 25 = .ok (.aload_n 0, 1) := by decide +kernel
theorem dX11_span_26 : decode cX11_span 26 = .ok (.iload 5, 2) := by decide +kernel
theorem dX11_span_28 : decode cX11_span 28 = .ok (.iconst 0, 1) := by decide +kernel
theorem dX11_span_29 : decode cX11_span 29 = .ok (.iconst 2, 1) := by decide +kernel
theorem dX11_span_30 : decode cX11_span 30 = .ok (.invokevirtual 182, 3) := by decide +kernel
theorem dX11_span_33 : decode cX11_span 33 = .ok (.aload_n 0, 1) := by decide +kernel
theorem dX11_span_34 : decode cX11_span 34 = .ok (.iload 6, 2) := by decide +kernel
theorem dX11_span_36 : decode cX11_span 36 = .ok (.iconst 0, 1) := by decide +kernel
theorem dX11_span_37 : decode cX11_span 37 = .ok (.aload_n 0, 1) := by decide +kernel
theorem dX11_span_38 : decode cX11_span 38 = .ok (.getfield 19, 3) := by decide +kernel
theorem dX11_span_41 : decode cX11_span 41 = .ok (.getfield 137, 3) := by decide +kernel
theorem dX11_span_44 : decode cX11_span 44 = .ok (.iconst 1, 1) := by decide +kernel
theorem dX11_span_45 : decode cX11_span 45 = .ok (.isub, 1) := by decide +kernel
theorem dX11_span_46 : decode cX11_span 46 = .ok (.invokevirtual 182, 3) := by decide +kernel
theorem dX11_span_49 : decode cX11_span 49 = .ok (.bipush 8, 2) := by decide +kernel
theorem dX11_span_51 : decode cX11_span 51 = .ok (.istore 7, 2) := by decide +kernel
theorem dX11_span_53 : decode cX11_span 53 = .ok (.iconst 0, 1) := by decide +kernel
theorem dX11_span_54 : decode cX11_span 54 = .ok (.istore 8, 2) := by decide +kernel
theorem dX11_span_56 : decode cX11_span 56 = .ok (.iconst 0, 1) := by decide +kernel
theorem dX11_span_57 : decode cX11_span 57 = .ok (.istore 9, 2) := by decide +kernel
theorem dX11_span_59 : decode cX11_span 59 = .ok (.iconst 0, 1) := by decide +kernel
theorem dX11_span_60 : decode cX11_span 60 = .ok (.istore 10, 2) := by decide +kernel
theorem dX11_span_62 : decode cX11_span 62 = .ok (.iload 10, 2) := by decide +kernel
theorem dX11_span_64 : decode cX11_span 64 = .ok (.iload_n 2, 1) := by decide +kernel
theorem dX11_span_65 : decode cX11_span 65 = .ok (.if_icmp .ge 90, 3) := by decide +kernel
theorem dX11_span_68 : decode cX11_span 68 = .ok (.aload_n 0, 1) := by decide +kernel
theorem dX11_span_69 : decode cX11_span 69 = .ok (.getfield 56, 3) := by decide +kernel
theorem dX11_span_72 : decode cX11_span 72 = .ok (.aload_n 0, 1) := by decide +kernel
theorem dX11_span_73 : decode cX11_span 73 = .ok (.getfield 52, 3) := by decide +kernel
theorem dX11_span_76 : decode cX11_span 76 = .ok (.invokevirtual 292, 3) := by decide +kernel
theorem dX11_span_79 : decode cX11_span 79 = .ok (.aload_n 0, 1) := by decide +kernel
theorem dX11_span_80 : decode cX11_span 80 = .ok (.getfield 92, 3) := by decide +kernel
theorem dX11_span_83 : decode cX11_span 83 = .ok (.aload_n 0, 1) := by decide +kernel
theorem dX11_span_84 : decode cX11_span 84 = .ok (.getfield 56, 3) := by decide +kernel
theorem dX11_span_87 : decode cX11_span 87 = .ok (.iload_n 1, 1) := by decide +kernel
theorem dX11_span_88 : decode cX11_span 88 = .ok (.iload 10, 2) := by decide +kernel
theorem dX11_span_90 : decode cX11_span 90 = .ok (.iadd, 1) := by decide +kernel
theorem dX11_span_91 : decode cX11_span 91 = .ok (.iload_n 3, 1) := by decide +kernel
theorem dX11_span_92 : decode cX11_span 92 = .ok (.iload 4, 2) := by decide +kernel
theorem dX11_span_94 : decode cX11_span 94 = .ok (.invokevirtual 330, 3) := by decide +kernel
theorem dX11_span_97 : decode cX11_span 97 = .ok (.aload_n 0, 1) := by decide +kernel
theorem dX11_span_98 : decode cX11_span 98 = .ok (.getfield 56, 3) := by decide +kernel
theorem dX11_span_101 : decode cX11_span 101 = .ok (.invokevirtual 195, 3) := by decide +kernel
theorem dX11_span_104 : decode cX11_span 104 = .ok (.invokestatic 280, 3) := by decide +kernel
theorem dX11_span_107 : decode cX11_span 107 = .ok (.istore 11, 2) := by decide +kernel
theorem dX11_span_109 : decode cX11_span 109 = .ok (.iload 7, 2) := by decide +kernel
theorem dX11_span_111 : decode cX11_span 111 = .ok (.iload 11, 2) := by decide +kernel
theorem dX11_span_113 : decode cX11_span 113 = .ok (.invokestatic 333, 3) := by decide +kernel
theorem dX11_span_116 : decode cX11_span 116 = .ok (.istore 7, 2) := by decide +kernel
theorem dX11_span_118 : decode cX11_span 118 = .ok (.iload 8, 2) := by decide +kernel
theorem dX11_span_120 : decode cX11_span 120 = .ok (.iload 11, 2) := by decide +kernel
theorem dX11_span_122 : decode cX11_span 122 = .ok (.invokestatic 338, 3) := by decide +kernel
theorem dX11_span_125 : decode cX11_span 125 = .ok (.istore 8, 2) := by decide +kernel
theorem dX11_span_127 : decode cX11_span 127 = .ok (.iload 9, 2) := by decide +kernel
theorem dX11_span_129 : decode cX11_span 129 = .ok (.aload_n 0, 1) := by decide +kernel
theorem dX11_span_130 : decode cX11_span 130 = .ok (.getfield 56, 3) := by decide +kernel
theorem dX11_span_133 : decode cX11_span 133 = .ok (.iload 6, 2) := by decide +kernel
theorem dX11_span_135 : decode cX11_span 135 = .ok (.invokevirtual 242, 3) := by decide +kernel
theorem dX11_span_138 : decode cX11_span 138 = .ok (.ifCond .eq 7, 3) := by decide +kernel
theorem dX11_span_141 : decode cX11_span 141 = .ok (.iconst 1, 1) := by decide +kernel
theorem dX11_span_142 : decode cX11_span 142 = .ok (.goto 4, 3) := by decide +kernel
theorem dX11_span_145 : decode cX11_span 145 = .ok (.iconst 0, 1) := by decide +kernel
theorem dX11_span_146 : decode cX11_span 146 = .ok (.iadd, 1) := by decide +kernel
theorem dX11_span_147 : decode cX11_span 147 = .ok (.istore 9, 2) := by decide +kernel
theorem dX11_span_149 : decode cX11_span 149 = .ok (.iinc 10 1, 3) := by decide +kernel
theorem dX11_span_152 : decode cX11_span 152 = .ok (.goto (-90), 3) := by decide +kernel
theorem dX11_span_155 : decode cX11_span 155 = .ok (.iload 5, 2) := by decide +kernel
theorem dX11_span_157 : decode cX11_span 157 = .ok (.lookupswitch 33 #[(0, 27), (1, 30)], 27) := by decide +kernel
theorem dX11_span_184 : decode cX11_span 184 = .ok (.iload 7, 2) := by decide +kernel
theorem dX11_span_186 : decode cX11_span 186 = .ok (.ireturn, 1) := by decide +kernel
theorem dX11_span_187 : decode cX11_span 187 = .ok (.iload 8, 2) := by decide +kernel
theorem dX11_span_189 : decode cX11_span 189 = .ok (.ireturn, 1) := by decide +kernel
theorem dX11_span_190 : decode cX11_span 190 = .ok (.iload 9, 2) := by decide +kernel
theorem dX11_span_192 : decode cX11_span 192 = .ok (.ireturn, 1) := by decide +kernel
theorem dX11_uncle_0 : decode cX11_uncle 0 = .ok (.aload_n 0, 1) := by decide +kernel
theorem dX11_uncle_1 : decode cX11_uncle 1 = .ok (.iload_n 1, 1) := by decide +kernel
theorem dX11_uncle_2 : decode cX11_uncle 2 = .ok (.iconst 0, 1) := by decide +kernel
theorem dX11_uncle_3 : decode cX11_uncle 3 = .ok (.bipush 99, 2) := by decide +kernel
theorem dX11_uncle_5 : decode cX11_uncle 5 = .ok (.invokevirtual 182, 3) := by decide +kernel
theorem dX11_uncle_8 : decode cX11_uncle 8 = .ok (.aload_n 0, 1) := by decide +kernel
theorem dX11_uncle_9 : decode cX11_uncle 9 = .ok (.iload_n 2, 1) := by decide +kernel
theorem dX11_uncle_10 : decode cX11_uncle 10 = .ok (.iconst 0, 1) := by decide +kernel
theorem dX11_uncle_11 : decode cX11_uncle 11 = .ok (.bipush 99, 2) := by decide +kernel
theorem dX11_uncle_13 : decode cX11_uncle 13 = .ok (.invokevirtual 182, 3) := by decide +kernel
theorem dX11_uncle_16 : decode cX11_uncle 16 = .ok (.aload_n 0, 1) := by decide +kernel
theorem dX11_uncle_17 : decode cX11_uncle 17 = .ok (.iload_n 3, 1) := by decide +kernel
theorem dX11_uncle_18 : decode cX11_uncle 18 = .ok (.iconst 0, 1) := by decide +kernel
theorem dX11_uncle_19 : decode cX11_uncle 19 = .ok (.iconst 2, 1) := by decide +kernel
theorem dX11_uncle_20 : decode cX11_uncle 20 = .ok (.invokevirtual 182, 3) := by decide +kernel
theorem dX11_uncle_23 : decode cX11_uncle 23 = .ok (.iconst 0, 1) := by decide +kernel
theorem dX11_uncle_24 : decode cX11_uncle 24 = .ok (.istore 4, 2) := by decide +kernel
theorem dX11_uncle_26 : decode cX11_uncle 26 = .ok (.iconst (-1), 1) := by decide +kernel
theorem dX11_uncle_27 : decode cX11_uncle 27 = .ok (.istore 5, 2) := by decide +kernel
theorem dX11_uncle_29 : decode cX11_uncle 29 = .ok (.iconst 0, 1) := by decide +kernel
theorem dX11_uncle_30 : decode cX11_uncle 30 = .ok (.istore 6, 2) := by decide +kernel
theorem dX11_uncle_32 : decode cX11_uncle 32 = .ok (.iconst 0, 1) := by decide +kernel
theorem dX11_uncle_33 : decode cX11_uncle 33 = .ok (.istore 7, 2) := by decide +kernel
theorem dX11_uncle_35 : decode cX11_uncle 35 = .ok (.iload 7, 2) := by decide +kernel
theorem dX11_uncle_37 : decode cX11_uncle 37 = .ok (.iconst 1, 1) := by decide +kernel
theorem dX11_uncle_38 : decode cX11_uncle 38 = .ok (.if_icmp .gt 75, 3) := by decide +kernel
theorem dX11_uncle_41 : decode cX11_uncle 41 = .ok (.iconst 0, 1) := by decide +kernel
theorem dX11_uncle_42 : decode cX11_uncle 42 = .ok (.istore 8, 2) := by decide +kernel
theorem dX11_uncle_44 : decode cX11_uncle 44 = .ok (.iload 8, 2) := by decide +kernel
theorem dX11_uncle_46 : decode cX11_uncle 46 = .ok (.iconst 1, 1) := by decide +kernel
theorem dX11_uncle_47 : decode cX11_uncle 47 = .ok (.if_icmp .gt 60, 3) := by decide +kernel
theorem dX11_uncle_50 : decode cX11_uncle 50 = .ok (.iload_n 1, 1) := by decide +kernel
theorem dX11_uncle_51 : decode cX11_uncle 51 = .ok (.iload_n 2, 1) := by decide +kernel
theorem dX11_uncle_52 : decode cX11_uncle 52 = .ok (.iload 7, 2) := by decide +kernel
theorem dX11_uncle_54 : decode cX11_uncle 54 = .ok (.iload 8, 2) := by decide +kernel
theorem dX11_uncle_56 : decode cX11_uncle 56 = .ok (.invokestatic 341, 3) := by decide +kernel
theorem dX11_uncle_59 : decode cX11_uncle 59 = .ok (.ifCond .eq 42, 3) := by decide +kernel
theorem dX11_uncle_62 : decode cX11_uncle 62 = .ok (.iload 4, 2) := by decide +kernel
theorem dX11_uncle_64 : decode cX11_uncle 64 = .ok (.ifCond .ne 34, 3) := by decide +kernel
theorem dX11_uncle_67 : decode cX11_uncle 67 = .ok (.bipush 10, 2) := by decide +kernel
theorem dX11_uncle_69 : decode cX11_uncle 69 = .ok (.iload 7, 2) := by decide +kernel
theorem dX11_uncle_71 : decode cX11_uncle 71 = .ok (.imul, 1) := by decide +kernel
theorem dX11_uncle_72 : decode cX11_uncle 72 = .ok (.iload 8, 2) := by decide +kernel
theorem dX11_uncle_74 : decode cX11_uncle 74 = .ok (.iadd, 1) := by decide +kernel
theorem dX11_uncle_75 : decode cX11_uncle 75 = .ok (.istore 5, 2) := by decide +kernel
theorem dX11_uncle_77 : decode cX11_uncle 77 = .ok (.iload_n 1, 1) := by decide +kernel
theorem dX11_uncle_78 : decode cX11_uncle 78 = .ok (.iload_n 2, 1) := by decide +kernel
theorem dX11_uncle_79 : decode cX11_uncle 79 = .ok (.iload 7, 2) := by decide +kernel
theorem dX11_uncle_81 : decode cX11_uncle 81 = .ok (.iload 8, 2) := by decide +kernel
theorem dX11_uncle_83 : decode cX11_uncle 83 = .ok (.invokestatic 345, 3) := by decide +kernel
theorem dX11_uncle_86 : decode cX11_uncle 86 = .ok (.iload_n 1, 1) := by decide +kernel
theorem dX11_uncle_87 : decode cX11_uncle 87 = .ok (.iload_n 2, 1) := by decide +kernel
theorem dX11_uncle_88 : decode cX11_uncle 88 = .ok (.iload 8, 2) := by decide +kernel
theorem dX11_uncle_90 : decode cX11_uncle 90 = .ok (.iload 7, 2) := by decide +kernel
theorem dX11_uncle_92 : decode cX11_uncle 92 = .ok (.invokestatic 345, 3) := by decide +kernel
theorem dX11_uncle_95 : decode cX11_uncle 95 = .ok (.iadd, 1) := by decide +kernel
theorem dX11_uncle_96 : decode cX11_uncle 96 = .ok (.istore 6, 2) := by decide +kernel
theorem dX11_uncle_98 : decode cX11_uncle 98 = .ok (.iinc 4 1, 3) := by decide +kernel
theorem dX11_uncle_101 : decode cX11_uncle 101 = .ok (.iinc 8 1, 3) := by decide +kernel
theorem dX11_uncle_104 : decode cX11_uncle 104 = .ok (.goto (-60), 3) := by decide +kernel
theorem dX11_uncle_107 : decode cX11_uncle 107 = .ok (.iinc 7 1, 3) := by decide +kernel
theorem dX11_uncle_110 : decode cX11_uncle 110 = .ok (.goto (-75), 3) := by decide +kernel
theorem dX11_uncle_113 : decode cX11_uncle 113 = .ok (.iload_n 3, 1) := by decide +kernel
theorem dX11_uncle_114 : decode cX11_uncle 114 = .ok (.lookupswitch 32 #[(0, 26), (1, 29)], 26) := by decide +kernel
theorem dX11_uncle_140 : decode cX11_uncle 140 = .ok (.iload 4, 2) := by decide +kernel
theorem dX11_uncle_142 : decode cX11_uncle 142 = .ok (.ireturn, 1) := by decide +kernel
theorem dX11_uncle_143 : decode cX11_uncle 143 = .ok (.iload 5, 2) := by decide +kernel
theorem dX11_uncle_145 : decode cX11_uncle 145 = .ok (.ireturn, 1) := by decide +kernel
theorem dX11_uncle_146 : decode cX11_uncle 146 = .ok (.iload 6, 2) := by decide +kernel
theorem dX11_uncle_148 : decode cX11_uncle 148 = .ok (.ireturn, 1) := by decide +kernel
theorem dX11_boat_0 : decode cX11_boat 0 = .ok (.aload_n 0, 1) := by decide +kernel
theorem dX11_boat_1 : decode cX11_boat 1 = .ok (.iload_n 1, 1) := by decide +kernel
theorem dX11_boat_2 : decode cX11_boat 2 = .ok (.iconst 0, 1) := by decide +kernel
theorem dX11_boat_3 : decode cX11_boat 3 = .ok (.bipush 12, 2) := by decide +kernel
theorem dX11_boat_5 : decode cX11_boat 5 = .ok (.invokevirtual 182, 3) := by decide +kernel
theorem dX11_boat_8 : decode cX11_boat 8 = .ok (.aload_n 0, 1) := by decide +kernel
theorem dX11_boat_9 : decode cX11_boat 9 = .ok (.iload_n 2, 1) := by decide +kernel
theorem dX11_boat_10 : decode cX11_boat 10 = .ok (.iconst 0, 1) := by decide +kernel
theorem dX11_boat_11 : decode cX11_boat 11 = .ok (.bipush 13, 2) := by decide +kernel
theorem dX11_boat_13 : decode cX11_boat 13 = .ok (.invokevirtual 182, 3) := by decide +kernel
theorem dX11_boat_16 : decode cX11_boat 16 = .ok (.aload_n 0, 1) := by decide +kernel
theorem dX11_boat_17 : decode cX11_boat 17 = .ok (.iload_n 3, 1) := by decide +kernel
theorem dX11_boat_18 : decode cX11_boat 18 = .ok (.iconst 0, 1) := by decide +kernel
theorem dX11_boat_19 : decode cX11_boat 19 = .ok (.bipush 16, 2) := by decide +kernel
theorem dX11_boat_21 : decode cX11_boat 21 = .ok (.invokevirtual 182, 3) := by decide +kernel
theorem dX11_boat_24 : decode cX11_boat 24 = .ok (.aload_n 0, 1) := by decide +kernel
theorem dX11_boat_25 : decode cX11_boat 25 = .ok (.iload 4, 2) := by decide +kernel
theorem dX11_boat_27 : decode cX11_boat 27 = .ok (.iconst 0, 1) := by decide +kernel
theorem dX11_boat_28 : decode cX11_boat 28 = .ok (.iconst 1, 1) := by decide +kernel
theorem dX11_boat_29 : decode cX11_boat 29 = .ok (.invokevirtual 182, 3) := by decide +kernel
theorem dX11_boat_32 : decode cX11_boat 32 = .ok (.lconst 0, 1) := by decide +kernel
theorem dX11_boat_33 : decode cX11_boat 33 = .ok (.lstore 5, 2) := by decide +kernel
theorem dX11_boat_35 : decode cX11_boat 35 = .ok (.lconst 1, 1) := by decide +kernel
theorem dX11_boat_36 : decode cX11_boat 36 = .ok (.lstore 7, 2) := by decide +kernel
theorem dX11_boat_38 : decode cX11_boat 38 = .ok (.iconst 0, 1) := by decide +kernel
theorem dX11_boat_39 : decode cX11_boat 39 = .ok (.istore 9, 2) := by decide +kernel
theorem dX11_boat_41 : decode cX11_boat 41 = .ok (.iload 9, 2) := by decide +kernel
theorem dX11_boat_43 : decode cX11_boat 43 = .ok (.iload_n 1, 1) := by decide +kernel
theorem dX11_boat_44 : decode cX11_boat 44 = .ok (.if_icmp .gt 57, 3) := by decide +kernel
theorem dX11_boat_47 : decode cX11_boat 47 = .ok (.iload 9, 2) := by decide +kernel
theorem dX11_boat_49 : decode cX11_boat 49 = .ok (.iload_n 2, 1) := by decide +kernel
theorem dX11_boat_50 : decode cX11_boat 50 = .ok (.if_icmp .lt 29, 3) := by decide +kernel
theorem dX11_boat_53 : decode cX11_boat 53 = .ok (.lload 5, 2) := by decide +kernel
theorem dX11_boat_55 : decode cX11_boat 55 = .ok (.lload 7, 2) := by decide +kernel
theorem dX11_boat_57 : decode cX11_boat 57 = .ok (.bipush 16, 2) := by decide +kernel
theorem dX11_boat_59 : decode cX11_boat 59 = .ok (.iload_n 3, 1) := by decide +kernel
theorem dX11_boat_60 : decode cX11_boat 60 = .ok (.isub, 1) := by decide +kernel
theorem dX11_boat_61 : decode cX11_boat 61 = .ok (.iload 9, 2) := by decide +kernel
theorem dX11_boat_63 : decode cX11_boat 63 = .ok (.invokestatic 349, 3) := by decide +kernel
theorem dX11_boat_66 : decode cX11_boat 66 = .ok (.lmul, 1) := by decide +kernel
theorem dX11_boat_67 : decode cX11_boat 67 = .ok (.iload_n 3, 1) := by decide +kernel
theorem dX11_boat_68 : decode cX11_boat 68 = .ok (.iload_n 1, 1) := by decide +kernel
theorem dX11_boat_69 : decode cX11_boat 69 = .ok (.iload 9, 2) := by decide +kernel
theorem dX11_boat_71 : decode cX11_boat 71 = .ok (.isub, 1) := by decide +kernel
theorem dX11_boat_72 : decode cX11_boat 72 = .ok (.invokestatic 349, 3) := by decide +kernel
theorem dX11_boat_75 : decode cX11_boat 75 = .ok (.lmul, 1) := by decide +kernel
theorem dX11_boat_76 : decode cX11_boat 76 = .ok (.ladd, 1) := by decide +kernel
theorem dX11_boat_77 : decode cX11_boat 77 = .ok (.lstore 5, 2) := by decide +kernel
theorem dX11_boat_79 : decode cX11_boat 79 = .ok (.lload 7, 2) := by decide +kernel
theorem dX11_boat_81 : decode cX11_boat 81 = .ok (.iload_n 1, 1) := by decide +kernel
theorem dX11_boat_82 : decode cX11_boat 82 = .ok (.iload 9, 2) := by decide +kernel
theorem dX11_boat_84 : decode cX11_boat 84 = .ok (.isub, 1) := by decide +kernel
theorem dX11_boat_85 : decode cX11_boat 85 = .ok (.i2l, 1) := by decide +kernel
theorem dX11_boat_86 : decode cX11_boat 86 = .ok (.lmul, 1) := by decide +kernel
theorem dX11_boat_87 : decode cX11_boat 87 = .ok (.iload 9, 2) := by decide +kernel
theorem dX11_boat_89 : decode cX11_boat 89 = .ok (.iconst 1, 1) := by decide +kernel
theorem dX11_boat_90 : decode cX11_boat 90 = .ok (.iadd, 1) := by decide +kernel
theorem dX11_boat_91 : decode cX11_boat 91 = .ok (.i2l, 1) := by decide +kernel
theorem dX11_boat_92 : decode cX11_boat 92 = .ok (.ldiv, 1) := by decide +kernel
theorem dX11_boat_93 : decode cX11_boat 93 = .ok (.lstore 7, 2) := by decide +kernel
theorem dX11_boat_95 : decode cX11_boat 95 = .ok (.iinc 9 1, 3) := by decide +kernel
theorem dX11_boat_98 : decode cX11_boat 98 = .ok (.goto (-57), 3) := by decide +kernel
theorem dX11_boat_101 : decode cX11_boat 101 = .ok (.bipush 16, 2) := by decide +kernel
theorem dX11_boat_103 : decode cX11_boat 103 = .ok (.iload_n 1, 1) := by decide +kernel
theorem dX11_boat_104 : decode cX11_boat 104 = .ok (.invokestatic 349, 3) := by decide +kernel
theorem dX11_boat_107 : decode cX11_boat 107 = .ok (.lstore 9, 2) := by decide +kernel
theorem dX11_boat_109 : decode cX11_boat 109 = .ok (.lload 9, 2) := by decide +kernel
theorem dX11_boat_111 : decode cX11_boat 111 = .ok (.lload 5, 2) := by decide +kernel
theorem dX11_boat_113 : decode cX11_boat 113 = .ok (.invokestatic 353, 3) := by decide +kernel
theorem dX11_boat_116 : decode cX11_boat 116 = .ok (.lstore 11, 2) := by decide +kernel
theorem dX11_boat_118 : decode cX11_boat 118 = .ok (.lload 11, 2) := by decide +kernel
theorem dX11_boat_120 : decode cX11_boat 120 = .ok (.lconst 0, 1) := by decide +kernel
theorem dX11_boat_121 : decode cX11_boat 121 = .ok (.lcmp, 1) := by decide +kernel
theorem dX11_boat_122 : decode cX11_boat 122 = .ok (.ifCond .ne 5, 3) := by decide +kernel
theorem dX11_boat_125 : decode cX11_boat 125 = .ok (.lconst 0, 1) := by decide +kernel
theorem dX11_boat_126 : decode cX11_boat 126 = .ok (.lreturn, 1) := by decide +kernel
theorem dX11_boat_127 : decode cX11_boat 127 = .ok (.iload 4, 2) := by decide +kernel
theorem dX11_boat_129 : decode cX11_boat 129 = .ok (.ifCond .ne 8, 3) := by decide +kernel
theorem dX11_boat_132 : decode cX11_boat 132 = .ok (.lload 5, 2) := by decide +kernel
theorem dX11_boat_134 : decode cX11_boat 134 = .ok (.goto 5, 3) := by decide +kernel
theorem dX11_boat_137 : decode cX11_boat 137 = .ok (.lload 9, 2) := by decide +kernel
theorem dX11_boat_139 : decode cX11_boat 139 = .ok (.lload 11, 2) := by decide +kernel
theorem dX11_boat_141 : decode cX11_boat 141 = .ok (.ldiv, 1) := by decide +kernel
theorem dX11_boat_142 : decode cX11_boat 142 = .ok (.lreturn, 1) := by decide +kernel
theorem dX11_crumbs_0 : decode cX11_crumbs 0 = .ok (.aload_n 0, 1) := by decide +kernel
theorem dX11_crumbs_1 : decode cX11_crumbs 1 = .ok (.iload_n 1, 1) := by decide +kernel
theorem dX11_crumbs_2 : decode cX11_crumbs 2 = .ok (.aload_n 0, 1) := by decide +kernel
theorem dX11_crumbs_3 : decode cX11_crumbs 3 = .ok (.getfield 19, 3) := by decide +kernel
theorem dX11_crumbs_6 : decode cX11_crumbs 6 = .ok (.getfield 137, 3) := by decide +kernel
theorem dX11_crumbs_9 : decode cX11_crumbs 9 = .ok (.invokevirtual 211, 3) := by decide +kernel
theorem dX11_crumbs_12 : decode cX11_crumbs 12 = .ok (.aload_n 0, 1) := by decide +kernel
theorem dX11_crumbs_13 : decode cX11_crumbs 13 = .ok (.iload_n 2, 1) := by decide +kernel
theorem dX11_crumbs_14 : decode cX11_crumbs 14 = .ok (.iconst 0, 1) := by decide +kernel
theorem dX11_crumbs_15 : decode cX11_crumbs 15 = .ok (.iconst 1, 1) := by decide +kernel
theorem dX11_crumbs_16 : decode cX11_crumbs 16 = .ok (.aload_n 0, 1) := by decide +kernel
theorem dX11_crumbs_17 : decode cX11_crumbs 17 = .ok (.getfield 19, 3) := by decide +kernel
theorem dX11_crumbs_20 : decode cX11_crumbs 20 = .ok (.getfield 137, 3) := by decide +kernel
theorem dX11_crumbs_23 : decode cX11_crumbs 23 = .ok (.ishl, 1) := by decide +kernel
theorem dX11_crumbs_24 : decode cX11_crumbs 24 = .ok (.iconst 1, 1) := by decide +kernel
theorem dX11_crumbs_25 : decode cX11_crumbs 25 = .ok (.isub, 1) := by decide +kernel
theorem dX11_crumbs_26 : decode cX11_crumbs 26 = .ok (.invokevirtual 182, 3) := by decide +kernel
theorem dX11_crumbs_29 : decode cX11_crumbs 29 = .ok (.aload_n 0, 1) := by decide +kernel
theorem dX11_crumbs_30 : decode cX11_crumbs 30 = .ok (.iload_n 3, 1) := by decide +kernel
theorem dX11_crumbs_31 : decode cX11_crumbs 31 = .ok (.iconst 0, 1) := by decide +kernel
theorem dX11_crumbs_32 : decode cX11_crumbs 32 = .ok (.sipush 999, 3) := by decide +kernel
theorem dX11_crumbs_35 : decode cX11_crumbs 35 = .ok (.invokevirtual 182, 3) := by decide +kernel
theorem dX11_crumbs_38 : decode cX11_crumbs 38 = .ok (.iload_n 2, 1) := by decide +kernel
theorem dX11_crumbs_39 : decode cX11_crumbs 39 = .ok (.aload_n 0, 1) := by decide +kernel
theorem dX11_crumbs_40 : decode cX11_crumbs 40 = .ok (.getfield 52, 3) := by decide +kernel
theorem dX11_crumbs_43 : decode cX11_crumbs 43 = .ok (.invokevirtual 195, 3) := by decide +kernel
theorem dX11_crumbs_46 : decode cX11_crumbs 46 = .ok (.iand, 1) := by decide +kernel
theorem dX11_crumbs_47 : decode cX11_crumbs 47 = .ok (.istore 4, 2) := by decide +kernel
theorem dX11_crumbs_49 : decode cX11_crumbs 49 = .ok (.iload 4, 2) := by decide +kernel
theorem dX11_crumbs_51 : decode cX11_crumbs 51 = .ok (.iload_n 1, 1) := by decide +kernel
theorem dX11_crumbs_52 : decode cX11_crumbs 52 = .ok (.ishr, 1) := by decide +kernel
theorem dX11_crumbs_53 : decode cX11_crumbs 53 = .ok (.iconst 1, 1) := by decide +kernel
theorem dX11_crumbs_54 : decode cX11_crumbs 54 = .ok (.iand, 1) := by decide +kernel
theorem dX11_crumbs_55 : decode cX11_crumbs 55 = .ok (.ifCond .ne 5, 3) := by decide +kernel
theorem dX11_crumbs_58 : decode cX11_crumbs 58 = .ok (.iconst 0, 1) := by decide +kernel
theorem dX11_crumbs_59 : decode cX11_crumbs 59 = .ok (.ireturn, 1) := by decide +kernel
theorem dX11_crumbs_60 : decode cX11_crumbs 60 = .ok (.iconst 0, 1) := by decide +kernel
theorem dX11_crumbs_61 : decode cX11_crumbs 61 = .ok (.istore 5, 2) := by decide +kernel
theorem dX11_crumbs_63 : decode cX11_crumbs 63 = .ok (.sipush 512, 3) := by decide +kernel
theorem dX11_crumbs_66 : decode cX11_crumbs 66 = .ok (.istore 6, 2) := by decide +kernel
theorem dX11_crumbs_68 : decode cX11_crumbs 68 = .ok (.iload 6, 2) := by decide +kernel
theorem dX11_crumbs_70 : decode cX11_crumbs 70 = .ok (.ifCond .le 34, 3) := by decide +kernel
theorem dX11_crumbs_73 : decode cX11_crumbs 73 = .ok (.aload_n 0, 1) := by decide +kernel
theorem dX11_crumbs_74 : decode cX11_crumbs 74 = .ok (.iload 4, 2) := by decide +kernel
theorem dX11_crumbs_76 : decode cX11_crumbs 76 = .ok (.iload 5, 2) := by decide +kernel
theorem dX11_crumbs_78 : decode cX11_crumbs 78 = .ok (.iload 6, 2) := by decide +kernel
theorem dX11_crumbs_80 : decode cX11_crumbs 80 = .ok (.iadd, 1) := by decide +kernel
theorem dX11_crumbs_81 : decode cX11_crumbs 81 = .ok (.invokevirtual 357, 3) := by decide +kernel
theorem dX11_crumbs_84 : decode cX11_crumbs 84 = .ok (.iload_n 3, 1) := by decide +kernel
theorem dX11_crumbs_85 : decode cX11_crumbs 85 = .ok (.if_icmp .gt 10, 3) := by decide +kernel
theorem dX11_crumbs_88 : decode cX11_crumbs 88 = .ok (.iload 5, 2) := by decide +kernel
theorem dX11_crumbs_90 : decode cX11_crumbs 90 = .ok (.iload 6, 2) := by decide +kernel
theorem dX11_crumbs_92 : decode cX11_crumbs 92 = .ok (.iadd, 1) := by decide +kernel
theorem dX11_crumbs_93 : decode cX11_crumbs 93 = .ok (.istore 5, 2) := by decide +kernel
theorem dX11_crumbs_95 : decode cX11_crumbs 95 = .ok (.iload 6, 2) := by decide +kernel
theorem dX11_crumbs_97 : decode cX11_crumbs 97 = .ok (.iconst 2, 1) := by decide +kernel
theorem dX11_crumbs_98 : decode cX11_crumbs 98 = .ok (.idiv, 1) := by decide +kernel
theorem dX11_crumbs_99 : decode cX11_crumbs 99 = .ok (.istore 6, 2) := by decide +kernel
theorem dX11_crumbs_101 : decode cX11_crumbs 101 = .ok (.goto (-33), 3) := by decide +kernel
theorem dX11_crumbs_104 : decode cX11_crumbs 104 = .ok (.aload_n 0, 1) := by decide +kernel
theorem dX11_crumbs_105 : decode cX11_crumbs 105 = .ok (.getfield 52, 3) := by decide +kernel
theorem dX11_crumbs_108 : decode cX11_crumbs 108 = .ok (.iload_n 1, 1) := by decide +kernel
theorem dX11_crumbs_109 : decode cX11_crumbs 109 = .ok (.invokevirtual 236, 3) := by decide +kernel
theorem dX11_crumbs_112 : decode cX11_crumbs 112 = .ok (.iload 5, 2) := by decide +kernel
theorem dX11_crumbs_114 : decode cX11_crumbs 114 = .ok (.invokestatic 333, 3) := by decide +kernel
theorem dX11_crumbs_117 : decode cX11_crumbs 117 = .ok (.ireturn, 1) := by decide +kernel
theorem dX11_image_0 : decode cX11_image 0 = .ok (.aload_n 0, 1) := by decide +kernel
theorem dX11_image_1 : decode cX11_image 1 = .ok (.getfield 62, 3) := by decide +kernel
theorem dX11_image_4 : decode cX11_image 4 = .ok (.aload_n 0, 1) := by decide +kernel
theorem dX11_image_5 : decode cX11_image 5 = .ok (.getfield 52, 3) := by decide +kernel
theorem dX11_image_8 : decode cX11_image 8 = .ok (.invokevirtual 360, 3) := by decide +kernel
theorem dX11_image_11 : decode cX11_image 11 = .ok (.ifCond .eq 13, 3) := by decide +kernel
theorem dX11_image_14 : decode cX11_image 14 = .ok (.aload_n 0, 1) := by decide +kernel
theorem dX11_image_15 : decode cX11_image 15 = .ok (.getfield 62, 3) := by decide +kernel
theorem dX11_image_18 : decode cX11_image 18 = .ok (.getfield 363, 3) := by decide +kernel
theorem dX11_image_21 : decode cX11_image 21 = .ok (.goto 4, 3) := by decide +kernel
theorem dX11_image_24 : decode cX11_image 24 = .ok (.iconst (-1), 1) := by decide +kernel
theorem dX11_image_25 : decode cX11_image 25 = .ok (.ireturn, 1) := by decide +kernel
theorem dX11_restore_0 : decode cX11_restore 0 = .ok (.aload_n 0, 1) := by decide +kernel
theorem dX11_restore_1 : decode cX11_restore 1 = .ok (.getfield 62, 3) := by decide +kernel
theorem dX11_restore_4 : decode cX11_restore 4 = .ok (.aload_n 0, 1) := by decide +kernel
theorem dX11_restore_5 : decode cX11_restore 5 = .ok (.getfield 52, 3) := by decide +kernel
theorem dX11_restore_8 : decode cX11_restore 8 = .ok (.invokevirtual 366, 3) := by decide +kernel
theorem dX11_restore_11 : decode cX11_restore 11 = .ok (.ifCond .ne 5, 3) := by decide +kernel
theorem dX11_restore_14 : decode cX11_restore 14 = .ok (.iconst (-1), 1) := by decide +kernel
theorem dX11_restore_15 : decode cX11_restore 15 = .ok (.ireturn, 1) := by decide +kernel
theorem dX11_restore_16 : decode cX11_restore 16 = .ok (.aload_n 0, 1) := by decide +kernel
theorem dX11_restore_17 : decode cX11_restore 17 = .ok (.iconst 0, 1) := by decide +kernel
theorem dX11_restore_18 : decode cX11_restore 18 = .ok (.putfield 133, 3) := by decide +kernel
theorem dX11_restore_21 : decode cX11_restore 21 = .ok (.aload_n 0, 1) := by decide +kernel
theorem dX11_restore_22 : decode cX11_restore 22 = .ok (.getfield 62, 3) := by decide +kernel
theorem dX11_restore_25 : decode cX11_restore 25 = .ok (.getfield 363, 3) := by decide +kernel
theorem dX11_restore_28 : decode cX11_restore 28 = .ok (.ireturn, 1) := by decide +kernel
theorem dX11_status_0 : decode cX11_status 0 = .ok (.iload_n 1, 1) := by decide +kernel
theorem dX11_status_1 : decode cX11_status 1 = .ok (.lookupswitch 37 #[(0, 27), (1, 32)], 27) := by decide +kernel
theorem dX11_status_28 : decode cX11_status 28 = .ok (.aload_n 0, 1) := by decide +kernel
theorem dX11_status_29 : decode cX11_status 29 = .ok (.getfield 369, 3) := by decide +kernel
theorem dX11_status_32 : decode cX11_status 32 = .ok (.ireturn, 1) := by decide +kernel
theorem dX11_status_33 : decode cX11_status 33 = .ok (.aload_n 0, 1) := by decide +kernel
theorem dX11_status_34 : decode cX11_status 34 = .ok (.getfield 372, 3) := by decide +kernel
theorem dX11_status_37 : decode cX11_status 37 = .ok (.ireturn, 1) := by decide +kernel
theorem dX11_status_38 : decode cX11_status 38 = .ok (.iconst (-1), 1) := by decide +kernel
theorem dX11_status_39 : decode cX11_status 39 = .ok (.ireturn, 1) := by decide +kernel
theorem dX11_count_0 : decode cX11_count 0 = .ok (.iload_n 1, 1) := by decide +kernel
theorem dX11_count_1 : decode cX11_count 1 = .ok (.tableswitch 51 0 2 #[27, 35, 43], 27) := by decide +kernel
theorem dX11_count_28 : decode cX11_count 28 = .ok (.aload_n 0, 1) := by decide +kernel
theorem dX11_count_29 : decode cX11_count 29 = .ok (.getfield 62, 3) := by decide +kernel
theorem dX11_count_32 : decode cX11_count 32 = .ok (.getfield 363, 3) := by decide +kernel
theorem dX11_count_35 : decode cX11_count 35 = .ok (.ireturn, 1) := by decide +kernel
theorem dX11_count_36 : decode cX11_count 36 = .ok (.aload_n 0, 1) := by decide +kernel
theorem dX11_count_37 : decode cX11_count 37 = .ok (.getfield 10, 3) := by decide +kernel
theorem dX11_count_40 : decode cX11_count 40 = .ok (.invokevirtual 104, 3) := by decide +kernel
theorem dX11_count_43 : decode cX11_count 43 = .ok (.ireturn, 1) := by decide +kernel
theorem dX11_count_44 : decode cX11_count 44 = .ok (.aload_n 0, 1) := by decide +kernel
theorem dX11_count_45 : decode cX11_count 45 = .ok (.getfield 62, 3) := by decide +kernel
theorem dX11_count_48 : decode cX11_count 48 = .ok (.getfield 179, 3) := by decide +kernel
theorem dX11_count_51 : decode cX11_count 51 = .ok (.ireturn, 1) := by decide +kernel
theorem dX11_count_52 : decode cX11_count 52 = .ok (.iconst (-1), 1) := by decide +kernel
theorem dX11_count_53 : decode cX11_count 53 = .ok (.ireturn, 1) := by decide +kernel
theorem dX11_demandOneOf_0 : decode cX11_demandOneOf 0 = .ok (.iload_n 1, 1) := by decide +kernel
theorem dX11_demandOneOf_1 : decode cX11_demandOneOf 1 = .ok (.ifCond .lt 8, 3) := by decide +kernel
theorem dX11_demandOneOf_4 : decode cX11_demandOneOf 4 = .ok (.iload_n 1, 1) := by decide +kernel
theorem dX11_demandOneOf_5 : decode cX11_demandOneOf 5 = .ok (.iload_n 2, 1) := by decide +kernel
theorem dX11_demandOneOf_6 : decode cX11_demandOneOf 6 = .ok (.if_icmp .lt 24, 3) := by decide +kernel
theorem dX11_demandOneOf_9 : decode cX11_demandOneOf 9 = .ok (.aload_n 0, 1) := by decide +kernel
theorem dX11_demandOneOf_10 : decode cX11_demandOneOf 10 = .ok (.dup, 1) := by decide +kernel
theorem dX11_demandOneOf_11 : decode cX11_demandOneOf 11 = .ok (.getfield 369, 3) := by decide +kernel
theorem dX11_demandOneOf_14 : decode cX11_demandOneOf 14 = .ok (.iconst 1, 1) := by decide +kernel
theorem dX11_demandOneOf_15 : decode cX11_demandOneOf 15 = .ok (.iadd, 1) := by decide +kernel
theorem dX11_demandOneOf_16 : decode cX11_demandOneOf 16 = .ok (.putfield 369, 3) := by decide +kernel
theorem dX11_demandOneOf_19 : decode cX11_demandOneOf 19 = .ok (.new 375, 3) := by decide +kernel
theorem dX11_demandOneOf_22 : decode cX11_demandOneOf 22 = .ok (.dup, 1) := by decide +kernel
theorem dX11_demandOneOf_23 : decode cX11_demandOneOf 23 = .ok (.ldc_w 377, 3) := by decide +kernel
theorem dX11_demandOneOf_26 : decode cX11_demandOneOf 26 = .ok (.invokespecial 379, 3) := by decide +kernel
theorem dX11_demandOneOf_29 : decode cX11_demandOneOf 29 = .ok (.athrow, 1) := by decide +kernel
theorem dX11_demandOneOf_30 : decode cX11_demandOneOf 30 = .ok (.return_, 1) := by decide +kernel
theorem dX11_demandWithin_0 : decode cX11_demandWithin 0 = .ok (.iload_n 1, 1) := by decide +kernel
theorem dX11_demandWithin_1 : decode cX11_demandWithin 1 = .ok (.iload_n 2, 1) := by decide +kernel
theorem dX11_demandWithin_2 : decode cX11_demandWithin 2 = .ok (.if_icmp .lt 8, 3) := by decide +kernel
theorem dX11_demandWithin_5 : decode cX11_demandWithin 5 = .ok (.iload_n 1, 1) := by decide +kernel
theorem dX11_demandWithin_6 : decode cX11_demandWithin 6 = .ok (.iload_n 3, 1) := by decide +kernel
theorem dX11_demandWithin_7 : decode cX11_demandWithin 7 = .ok (.if_icmp .le 24, 3) := by decide +kernel
theorem dX11_demandWithin_10 : decode cX11_demandWithin 10 = .ok (.aload_n 0, 1) := by decide +kernel
theorem dX11_demandWithin_11 : decode cX11_demandWithin 11 = .ok (.dup, 1) := by decide +kernel
theorem dX11_demandWithin_12 : decode cX11_demandWithin 12 = .ok (.getfield 372, 3) := by decide +kernel
theorem dX11_demandWithin_15 : decode cX11_demandWithin 15 = .ok (.iconst 1, 1) := by decide +kernel
theorem dX11_demandWithin_16 : decode cX11_demandWithin 16 = .ok (.iadd, 1) := by decide +kernel
theorem dX11_demandWithin_17 : decode cX11_demandWithin 17 = .ok (.putfield 372, 3) := by decide +kernel
theorem dX11_demandWithin_20 : decode cX11_demandWithin 20 = .ok (.new 382, 3) := by decide +kernel
theorem dX11_demandWithin_23 : decode cX11_demandWithin 23 = .ok (.dup, 1) := by decide +kernel
theorem dX11_demandWithin_24 : decode cX11_demandWithin 24 = .ok (.ldc_w 384, 3) := by decide +kernel
theorem dX11_demandWithin_27 : decode cX11_demandWithin 27 = .ok (.invokespecial 386, 3) := by decide +kernel
theorem dX11_demandWithin_30 : decode cX11_demandWithin 30 = .ok (.athrow, 1) := by decide +kernel
theorem dX11_demandWithin_31 : decode cX11_demandWithin 31 = .ok (.return_, 1) := by decide +kernel
theorem dX11_openText_0 : decode cX11_openText 0 = .ok (.aload_n 0, 1) := by decide +kernel
theorem dX11_openText_1 : decode cX11_openText 1 = .ok (.iload_n 1, 1) := by decide +kernel
theorem dX11_openText_2 : decode cX11_openText 2 = .ok (.iconst 0, 1) := by decide +kernel
theorem dX11_openText_3 : decode cX11_openText 3 = .ok (.aload_n 0, 1) := by decide +kernel
theorem dX11_openText_4 : decode cX11_openText 4 = .ok (.getfield 10, 3) := by decide +kernel
theorem dX11_openText_7 : decode cX11_openText 7 = .ok (.invokevirtual 104, 3) := by decide +kernel
theorem dX11_openText_10 : decode cX11_openText 10 = .ok (.iload_n 2, 1) := by decide +kernel
theorem dX11_openText_11 : decode cX11_openText 11 = .ok (.invokestatic 333, 3) := by decide +kernel
theorem dX11_openText_14 : decode cX11_openText 14 = .ok (.invokevirtual 182, 3) := by decide +kernel
theorem dX11_openText_17 : decode cX11_openText 17 = .ok (.aload_n 0, 1) := by decide +kernel
theorem dX11_openText_18 : decode cX11_openText 18 = .ok (.getfield 10, 3) := by decide +kernel
theorem dX11_openText_21 : decode cX11_openText 21 = .ok (.iload_n 1, 1) := by decide +kernel
theorem dX11_openText_22 : decode cX11_openText 22 = .ok (.invokevirtual 387, 3) := by decide +kernel
theorem dX11_openText_25 : decode cX11_openText 25 = .ok (.return_, 1) := by decide +kernel
theorem dX11_tryNights_0 : decode cX11_tryNights 0 = .ok (.aload_n 0, 1) := by decide +kernel
theorem dX11_tryNights_1 : decode cX11_tryNights 1 = .ok (.getfield 56, 3) := by decide +kernel
theorem dX11_tryNights_4 : decode cX11_tryNights 4 = .ok (.aload_n 0, 1) := by decide +kernel
theorem dX11_tryNights_5 : decode cX11_tryNights 5 = .ok (.getfield 52, 3) := by decide +kernel
theorem dX11_tryNights_8 : decode cX11_tryNights 8 = .ok (.invokevirtual 292, 3) := by decide +kernel
theorem dX11_tryNights_11 : decode cX11_tryNights 11 = .ok (.iconst 0, 1) := by decide +kernel
theorem dX11_tryNights_12 : decode cX11_tryNights 12 = .ok (.istore_n 2, 1) := by decide +kernel
theorem dX11_tryNights_13 : decode cX11_tryNights 13 = .ok (.iload_n 2, 1) := by decide +kernel
theorem dX11_tryNights_14 : decode cX11_tryNights 14 = .ok (.iload_n 1, 1) := by decide +kernel
theorem dX11_tryNights_15 : decode cX11_tryNights 15 = .ok (.if_icmp .ge 17, 3) := by decide +kernel
theorem dX11_tryNights_18 : decode cX11_tryNights 18 = .ok (.aload_n 0, 1) := by decide +kernel
theorem dX11_tryNights_19 : decode cX11_tryNights 19 = .ok (.getfield 56, 3) := by decide +kernel
theorem dX11_tryNights_22 : decode cX11_tryNights 22 = .ok (.invokevirtual 294, 3) := by decide +kernel
theorem dX11_tryNights_25 : decode cX11_tryNights 25 = .ok (.pop, 1) := by decide +kernel
theorem dX11_tryNights_26 : decode cX11_tryNights 26 = .ok (.iinc 2 1, 3) := by decide +kernel
theorem dX11_tryNights_29 : decode cX11_tryNights 29 = .ok (.goto (-16), 3) := by decide +kernel
theorem dX11_tryNights_32 : decode cX11_tryNights 32 = .ok (.return_, 1) := by decide +kernel
theorem dX11_givenBelow_0 : decode cX11_givenBelow 0 = .ok (.iconst 0, 1) := by decide +kernel
theorem dX11_givenBelow_1 : decode cX11_givenBelow 1 = .ok (.istore_n 3, 1) := by decide +kernel
theorem dX11_givenBelow_2 : decode cX11_givenBelow 2 = .ok (.iconst 0, 1) := by decide +kernel
theorem dX11_givenBelow_3 : decode cX11_givenBelow 3 = .ok (.istore 4, 2) := by decide +kernel
theorem dX11_givenBelow_5 : decode cX11_givenBelow 5 = .ok (.iload 4, 2) := by decide +kernel
theorem dX11_givenBelow_7 : decode cX11_givenBelow 7 = .ok (.aload_n 0, 1) := by decide +kernel
theorem dX11_givenBelow_8 : decode cX11_givenBelow 8 = .ok (.getfield 19, 3) := by decide +kernel
theorem dX11_givenBelow_11 : decode cX11_givenBelow 11 = .ok (.getfield 137, 3) := by decide +kernel
theorem dX11_givenBelow_14 : decode cX11_givenBelow 14 = .ok (.if_icmp .ge 35, 3) := by decide +kernel
theorem dX11_givenBelow_17 : decode cX11_givenBelow 17 = .ok (.iload_n 1, 1) := by decide +kernel
theorem dX11_givenBelow_18 : decode cX11_givenBelow 18 = .ok (.iload 4, 2) := by decide +kernel
theorem dX11_givenBelow_20 : decode cX11_givenBelow 20 = .ok (.ishr, 1) := by decide +kernel
theorem dX11_givenBelow_21 : decode cX11_givenBelow 21 = .ok (.iconst 1, 1) := by decide +kernel
theorem dX11_givenBelow_22 : decode cX11_givenBelow 22 = .ok (.iand, 1) := by decide +kernel
theorem dX11_givenBelow_23 : decode cX11_givenBelow 23 = .ok (.iconst 1, 1) := by decide +kernel
theorem dX11_givenBelow_24 : decode cX11_givenBelow 24 = .ok (.if_icmp .ne 19, 3) := by decide +kernel
theorem dX11_givenBelow_27 : decode cX11_givenBelow 27 = .ok (.iload_n 3, 1) := by decide +kernel
theorem dX11_givenBelow_28 : decode cX11_givenBelow 28 = .ok (.aload_n 0, 1) := by decide +kernel
theorem dX11_givenBelow_29 : decode cX11_givenBelow 29 = .ok (.getfield 52, 3) := by decide +kernel
theorem dX11_givenBelow_32 : decode cX11_givenBelow 32 = .ok (.iload 4, 2) := by decide +kernel
theorem dX11_givenBelow_34 : decode cX11_givenBelow 34 = .ok (.invokevirtual 236, 3) := by decide +kernel
theorem dX11_givenBelow_37 : decode cX11_givenBelow 37 = .ok (.iload_n 2, 1) := by decide +kernel
theorem dX11_givenBelow_38 : decode cX11_givenBelow 38 = .ok (.invokestatic 333, 3) := by decide +kernel
theorem dX11_givenBelow_41 : decode cX11_givenBelow 41 = .ok (.iadd, 1) := by decide +kernel
theorem dX11_givenBelow_42 : decode cX11_givenBelow 42 = .ok (.istore_n 3, 1) := by decide +kernel
theorem dX11_givenBelow_43 : decode cX11_givenBelow 43 = .ok (.iinc 4 1, 3) := by decide +kernel
theorem dX11_givenBelow_46 : decode cX11_givenBelow 46 = .ok (.goto (-41), 3) := by decide +kernel
theorem dX11_givenBelow_49 : decode cX11_givenBelow 49 = .ok (.iload_n 3, 1) := by decide +kernel
theorem dX11_givenBelow_50 : decode cX11_givenBelow 50 = .ok (.ireturn, 1) := by decide +kernel
theorem dX11_gain_0 : decode cX11_gain 0 = .ok (.iload_n 3, 1) := by decide +kernel
theorem dX11_gain_1 : decode cX11_gain 1 = .ok (.ifCond .ne 7, 3) := by decide +kernel
theorem dX11_gain_4 : decode cX11_gain 4 = .ok (.iload_n 0, 1) := by decide +kernel
theorem dX11_gain_5 : decode cX11_gain 5 = .ok (.goto 4, 3) := by decide +kernel
theorem dX11_gain_8 : decode cX11_gain 8 = .ok (.iconst 0, 1) := by decide +kernel
theorem dX11_gain_9 : decode cX11_gain 9 = .ok (.iload_n 2, 1) := by decide +kernel
theorem dX11_gain_10 : decode cX11_gain 10 = .ok (.ifCond .ne 7, 3) := by decide +kernel
theorem dX11_gain_13 : decode cX11_gain 13 = .ok (.iload_n 1, 1) := by decide +kernel
theorem dX11_gain_14 : decode cX11_gain 14 = .ok (.goto 4, 3) := by decide +kernel
theorem dX11_gain_17 : decode cX11_gain 17 = .ok (.iconst 0, 1) := by decide +kernel
theorem dX11_gain_18 : decode cX11_gain 18 = .ok (.isub, 1) := by decide +kernel
theorem dX11_gain_19 : decode cX11_gain 19 = .ok (.ireturn, 1) := by decide +kernel
theorem dX11_isRest_0 : decode cX11_isRest 0 = .ok (.iload_n 0, 1) := by decide +kernel
theorem dX11_isRest_1 : decode cX11_isRest 1 = .ok (.iload_n 1, 1) := by decide +kernel
theorem dX11_isRest_2 : decode cX11_isRest 2 = .ok (.iload_n 2, 1) := by decide +kernel
theorem dX11_isRest_3 : decode cX11_isRest 3 = .ok (.iload_n 3, 1) := by decide +kernel
theorem dX11_isRest_4 : decode cX11_isRest 4 = .ok (.invokestatic 345, 3) := by decide +kernel
theorem dX11_isRest_7 : decode cX11_isRest 7 = .ok (.iload_n 0, 1) := by decide +kernel
theorem dX11_isRest_8 : decode cX11_isRest 8 = .ok (.iload_n 1, 1) := by decide +kernel
theorem dX11_isRest_9 : decode cX11_isRest 9 = .ok (.iconst 1, 1) := by decide +kernel
theorem dX11_isRest_10 : decode cX11_isRest 10 = .ok (.iload_n 2, 1) := by decide +kernel
theorem dX11_isRest_11 : decode cX11_isRest 11 = .ok (.isub, 1) := by decide +kernel
theorem dX11_isRest_12 : decode cX11_isRest 12 = .ok (.iload_n 3, 1) := by decide +kernel
theorem dX11_isRest_13 : decode cX11_isRest 13 = .ok (.invokestatic 345, 3) := by decide +kernel
theorem dX11_isRest_16 : decode cX11_isRest 16 = .ok (.if_icmp .lt 26, 3) := by decide +kernel
theorem dX11_isRest_19 : decode cX11_isRest 19 = .ok (.iload_n 0, 1) := by decide +kernel
theorem dX11_isRest_20 : decode cX11_isRest 20 = .ok (.iload_n 1, 1) := by decide +kernel
theorem dX11_isRest_21 : decode cX11_isRest 21 = .ok (.iload_n 3, 1) := by decide +kernel
theorem dX11_isRest_22 : decode cX11_isRest 22 = .ok (.iload_n 2, 1) := by decide +kernel
theorem dX11_isRest_23 : decode cX11_isRest 23 = .ok (.invokestatic 345, 3) := by decide +kernel
theorem dX11_isRest_26 : decode cX11_isRest 26 = .ok (.iload_n 0, 1) := by decide +kernel
theorem dX11_isRest_27 : decode cX11_isRest 27 = .ok (.iload_n 1, 1) := by decide +kernel
theorem dX11_isRest_28 : decode cX11_isRest 28 = .ok (.iconst 1, 1) := by decide +kernel
theorem dX11_isRest_29 : decode cX11_isRest 29 = .ok (.iload_n 3, 1) := by decide +kernel
theorem dX11_isRest_30 : decode cX11_isRest 30 = .ok (.isub, 1) := by decide +kernel
theorem dX11_isRest_31 : decode cX11_isRest 31 = .ok (.iload_n 2, 1) := by decide +kernel
theorem dX11_isRest_32 : decode cX11_isRest 32 = .ok (.invokestatic 345, 3) := by decide +kernel
theorem dX11_isRest_35 : decode cX11_isRest 35 = .ok (.if_icmp .lt 7, 3) := by decide +kernel
theorem dX11_isRest_38 : decode cX11_isRest 38 = .ok (.iconst 1, 1) := by decide +kernel
theorem dX11_isRest_39 : decode cX11_isRest 39 = .ok (.goto 4, 3) := by decide +kernel
theorem dX11_isRest_42 : decode cX11_isRest 42 = .ok (.iconst 0, 1) := by decide +kernel
theorem dX11_isRest_43 : decode cX11_isRest 43 = .ok (.ireturn, 1) := by decide +kernel
theorem dX11_power_0 : decode cX11_power 0 = .ok (.lconst 1, 1) := by decide +kernel
theorem dX11_power_1 : decode cX11_power 1 = .ok (.lstore_n 2, 1) := by decide +kernel
theorem dX11_power_2 : decode cX11_power 2 = .ok (.iconst 0, 1) := by decide +kernel
theorem dX11_power_3 : decode cX11_power 3 = .ok (.istore 4, 2) := by decide +kernel
theorem dX11_power_5 : decode cX11_power 5 = .ok (.iload 4, 2) := by decide +kernel
theorem dX11_power_7 : decode cX11_power 7 = .ok (.iload_n 1, 1) := by decide +kernel
theorem dX11_power_8 : decode cX11_power 8 = .ok (.if_icmp .ge 14, 3) := by decide +kernel
theorem dX11_power_11 : decode cX11_power 11 = .ok (.lload_n 2, 1) := by decide +kernel
theorem dX11_power_12 : decode cX11_power 12 = .ok (.iload_n 0, 1) := by decide +kernel
theorem dX11_power_13 : decode cX11_power 13 = .ok (.i2l, 1) := by decide +kernel
theorem dX11_power_14 : decode cX11_power 14 = .ok (.lmul, 1) := by decide +kernel
theorem dX11_power_15 : decode cX11_power 15 = .ok (.lstore_n 2, 1) := by decide +kernel
theorem dX11_power_16 : decode cX11_power 16 = .ok (.iinc 4 1, 3) := by decide +kernel
theorem dX11_power_19 : decode cX11_power 19 = .ok (.goto (-14), 3) := by decide +kernel
theorem dX11_power_22 : decode cX11_power 22 = .ok (.lload_n 2, 1) := by decide +kernel
theorem dX11_power_23 : decode cX11_power 23 = .ok (.lreturn, 1) := by decide +kernel
theorem dX11_commonDivisor_0 : decode cX11_commonDivisor 0 = .ok (.lload_n 0, 1) := by decide +kernel
theorem dX11_commonDivisor_1 : decode cX11_commonDivisor 1 = .ok (.lstore 4, 2) := by decide +kernel
theorem dX11_commonDivisor_3 : decode cX11_commonDivisor 3 = .ok (.lload_n 2, 1) := by decide +kernel
theorem dX11_commonDivisor_4 : decode cX11_commonDivisor 4 = .ok (.lstore 6, 2) := by decide +kernel
theorem dX11_commonDivisor_6 : decode cX11_commonDivisor 6 = .ok (.iconst 0, 1) := by decide +kernel
theorem dX11_commonDivisor_7 : decode cX11_commonDivisor 7 = .ok (.istore 8, 2) := by decide +kernel
theorem dX11_commonDivisor_9 : decode cX11_commonDivisor 9 = .ok (.iload 8, 2) := by decide +kernel
theorem dX11_commonDivisor_11 : decode cX11_commonDivisor 11 = .ok (.bipush 100, 2) := by decide +kernel
theorem dX11_commonDivisor_13 : decode cX11_commonDivisor 13 = .ok (.if_icmp .ge 31, 3) := by decide +kernel
theorem dX11_commonDivisor_16 : decode cX11_commonDivisor 16 = .ok (.lload 6, 2) := by decide +kernel
theorem dX11_commonDivisor_18 : decode cX11_commonDivisor 18 = .ok (.lconst 0, 1) := by decide +kernel
theorem dX11_commonDivisor_19 : decode cX11_commonDivisor 19 = .ok (.lcmp, 1) := by decide +kernel
theorem dX11_commonDivisor_20 : decode cX11_commonDivisor 20 = .ok (.ifCond .eq 24, 3) := by decide +kernel
theorem dX11_commonDivisor_23 : decode cX11_commonDivisor 23 = .ok (.lload 4, 2) := by decide +kernel
theorem dX11_commonDivisor_25 : decode cX11_commonDivisor 25 = .ok (.lload 6, 2) := by decide +kernel
theorem dX11_commonDivisor_27 : decode cX11_commonDivisor 27 = .ok (.lrem, 1) := by decide +kernel
theorem dX11_commonDivisor_28 : decode cX11_commonDivisor 28 = .ok (.lstore 9, 2) := by decide +kernel
theorem dX11_commonDivisor_30 : decode cX11_commonDivisor 30 = .ok (.lload 6, 2) := by decide +kernel
theorem dX11_commonDivisor_32 : decode cX11_commonDivisor 32 = .ok (.lstore 4, 2) := by decide +kernel
theorem dX11_commonDivisor_34 : decode cX11_commonDivisor 34 = .ok (.lload 9, 2) := by decide +kernel
theorem dX11_commonDivisor_36 : decode cX11_commonDivisor 36 = .ok (.lstore 6, 2) := by decide +kernel
theorem dX11_commonDivisor_38 : decode cX11_commonDivisor 38 = .ok (.iinc 8 1, 3) := by decide +kernel
theorem dX11_commonDivisor_41 : decode cX11_commonDivisor 41 = .ok (.goto (-32), 3) := by decide +kernel
theorem dX11_commonDivisor_44 : decode cX11_commonDivisor 44 = .ok (.lload 4, 2) := by decide +kernel
theorem dX11_commonDivisor_46 : decode cX11_commonDivisor 46 = .ok (.lreturn, 1) := by decide +kernel
theorem dJ6_bitCount_0f7a4_0 : decode cJ6_bitCount_0f7a4 0 = .ok (.iload_n 0, 1) := by decide +kernel
theorem dJ6_bitCount_0f7a4_1 : decode cJ6_bitCount_0f7a4 1 = .ok (.iload_n 0, 1) := by decide +kernel
theorem dJ6_bitCount_0f7a4_2 : decode cJ6_bitCount_0f7a4 2 = .ok (.iconst 1, 1) := by decide +kernel
theorem dJ6_bitCount_0f7a4_3 : decode cJ6_bitCount_0f7a4 3 = .ok (.iushr, 1) := by decide +kernel
theorem dJ6_bitCount_0f7a4_4 : decode cJ6_bitCount_0f7a4 4 = .ok (.ldc_w 265, 3) := by decide +kernel
theorem dJ6_bitCount_0f7a4_7 : decode cJ6_bitCount_0f7a4 7 = .ok (.iand, 1) := by decide +kernel
theorem dJ6_bitCount_0f7a4_8 : decode cJ6_bitCount_0f7a4 8 = .ok (.isub, 1) := by decide +kernel
theorem dJ6_bitCount_0f7a4_9 : decode cJ6_bitCount_0f7a4 9 = .ok (.istore_n 0, 1) := by decide +kernel
theorem dJ6_bitCount_0f7a4_10 : decode cJ6_bitCount_0f7a4 10 = .ok (.iload_n 0, 1) := by decide +kernel
theorem dJ6_bitCount_0f7a4_11 : decode cJ6_bitCount_0f7a4 11 = .ok (.ldc_w 266, 3) := by decide +kernel
theorem dJ6_bitCount_0f7a4_14 : decode cJ6_bitCount_0f7a4 14 = .ok (.iand, 1) := by decide +kernel
theorem dJ6_bitCount_0f7a4_15 : decode cJ6_bitCount_0f7a4 15 = .ok (.iload_n 0, 1) := by decide +kernel
theorem dJ6_bitCount_0f7a4_16 : decode cJ6_bitCount_0f7a4 16 = .ok (.iconst 2, 1) := by decide +kernel
theorem dJ6_bitCount_0f7a4_17 : decode cJ6_bitCount_0f7a4 17 = .ok (.iushr, 1) := by decide +kernel
theorem dJ6_bitCount_0f7a4_18 : decode cJ6_bitCount_0f7a4 18 = .ok (.ldc_w 266, 3) := by decide +kernel
theorem dJ6_bitCount_0f7a4_21 : decode cJ6_bitCount_0f7a4 21 = .ok (.iand, 1) := by decide +kernel
theorem dJ6_bitCount_0f7a4_22 : decode cJ6_bitCount_0f7a4 22 = .ok (.iadd, 1) := by decide +kernel
theorem dJ6_bitCount_0f7a4_23 : decode cJ6_bitCount_0f7a4 23 = .ok (.istore_n 0, 1) := by decide +kernel
theorem dJ6_bitCount_0f7a4_24 : decode cJ6_bitCount_0f7a4 24 = .ok (.iload_n 0, 1) := by decide +kernel
theorem dJ6_bitCount_0f7a4_25 : decode cJ6_bitCount_0f7a4 25 = .ok (.iload_n 0, 1) := by decide +kernel
theorem dJ6_bitCount_0f7a4_26 : decode cJ6_bitCount_0f7a4 26 = .ok (.iconst 4, 1) := by decide +kernel
theorem dJ6_bitCount_0f7a4_27 : decode cJ6_bitCount_0f7a4 27 = .ok (.iushr, 1) := by decide +kernel
theorem dJ6_bitCount_0f7a4_28 : decode cJ6_bitCount_0f7a4 28 = .ok (.iadd, 1) := by decide +kernel
theorem dJ6_bitCount_0f7a4_29 : decode cJ6_bitCount_0f7a4 29 = .ok (.ldc_w 267, 3) := by decide +kernel
theorem dJ6_bitCount_0f7a4_32 : decode cJ6_bitCount_0f7a4 32 = .ok (.iand, 1) := by decide +kernel
theorem dJ6_bitCount_0f7a4_33 : decode cJ6_bitCount_0f7a4 33 = .ok (.istore_n 0, 1) := by decide +kernel
theorem dJ6_bitCount_0f7a4_34 : decode cJ6_bitCount_0f7a4 34 = .ok (.iload_n 0, 1) := by decide +kernel
theorem dJ6_bitCount_0f7a4_35 : decode cJ6_bitCount_0f7a4 35 = .ok (.iload_n 0, 1) := by decide +kernel
theorem dJ6_bitCount_0f7a4_36 : decode cJ6_bitCount_0f7a4 36 = .ok (.bipush 8, 2) := by decide +kernel
theorem dJ6_bitCount_0f7a4_38 : decode cJ6_bitCount_0f7a4 38 = .ok (.iushr, 1) := by decide +kernel
theorem dJ6_bitCount_0f7a4_39 : decode cJ6_bitCount_0f7a4 39 = .ok (.iadd, 1) := by decide +kernel
theorem dJ6_bitCount_0f7a4_40 : decode cJ6_bitCount_0f7a4 40 = .ok (.istore_n 0, 1) := by decide +kernel
theorem dJ6_bitCount_0f7a4_41 : decode cJ6_bitCount_0f7a4 41 = .ok (.iload_n 0, 1) := by decide +kernel
theorem dJ6_bitCount_0f7a4_42 : decode cJ6_bitCount_0f7a4 42 = .ok (.iload_n 0, 1) := by decide +kernel
theorem dJ6_bitCount_0f7a4_43 : decode cJ6_bitCount_0f7a4 43 = .ok (.bipush 16, 2) := by decide +kernel
theorem dJ6_bitCount_0f7a4_45 : decode cJ6_bitCount_0f7a4 45 = .ok (.iushr, 1) := by decide +kernel
theorem dJ6_bitCount_0f7a4_46 : decode cJ6_bitCount_0f7a4 46 = .ok (.iadd, 1) := by decide +kernel
theorem dJ6_bitCount_0f7a4_47 : decode cJ6_bitCount_0f7a4 47 = .ok (.istore_n 0, 1) := by decide +kernel
theorem dJ6_bitCount_0f7a4_48 : decode cJ6_bitCount_0f7a4 48 = .ok (.iload_n 0, 1) := by decide +kernel
theorem dJ6_bitCount_0f7a4_49 : decode cJ6_bitCount_0f7a4 49 = .ok (.bipush 63, 2) := by decide +kernel
theorem dJ6_bitCount_0f7a4_51 : decode cJ6_bitCount_0f7a4 51 = .ok (.iand, 1) := by decide +kernel
theorem dJ6_bitCount_0f7a4_52 : decode cJ6_bitCount_0f7a4 52 = .ok (.ireturn, 1) := by decide +kernel
theorem dJ9_max_7cf53_0 : decode cJ9_max_7cf53 0 = .ok (.iload_n 0, 1) := by decide +kernel
theorem dJ9_max_7cf53_1 : decode cJ9_max_7cf53 1 = .ok (.iload_n 1, 1) := by decide +kernel
theorem dJ9_max_7cf53_2 : decode cJ9_max_7cf53 2 = .ok (.if_icmp .lt 7, 3) := by decide +kernel
theorem dJ9_max_7cf53_5 : decode cJ9_max_7cf53 5 = .ok (.iload_n 0, 1) := by decide +kernel
theorem dJ9_max_7cf53_6 : decode cJ9_max_7cf53 6 = .ok (.goto 4, 3) := by decide +kernel
theorem dJ9_max_7cf53_9 : decode cJ9_max_7cf53 9 = .ok (.iload_n 1, 1) := by decide +kernel
theorem dJ9_max_7cf53_10 : decode cJ9_max_7cf53 10 = .ok (.ireturn, 1) := by decide +kernel
theorem dJ9_min_7cf53_0 : decode cJ9_min_7cf53 0 = .ok (.iload_n 0, 1) := by decide +kernel
theorem dJ9_min_7cf53_1 : decode cJ9_min_7cf53 1 = .ok (.iload_n 1, 1) := by decide +kernel
theorem dJ9_min_7cf53_2 : decode cJ9_min_7cf53 2 = .ok (.if_icmp .gt 7, 3) := by decide +kernel
theorem dJ9_min_7cf53_5 : decode cJ9_min_7cf53 5 = .ok (.iload_n 0, 1) := by decide +kernel
theorem dJ9_min_7cf53_6 : decode cJ9_min_7cf53 6 = .ok (.goto 4, 3) := by decide +kernel
theorem dJ9_min_7cf53_9 : decode cJ9_min_7cf53 9 = .ok (.iload_n 1, 1) := by decide +kernel
theorem dJ9_min_7cf53_10 : decode cJ9_min_7cf53 10 = .ok (.ireturn, 1) := by decide +kernel
theorem dJ0_length_8abf5_0 : decode cJ0_length_8abf5 0 = .ok (.aload_n 0, 1) := by decide +kernel
theorem dJ0_length_8abf5_1 : decode cJ0_length_8abf5 1 = .ok (.getfield 9, 3) := by decide +kernel
theorem dJ0_length_8abf5_4 : decode cJ0_length_8abf5 4 = .ok (.arraylength, 1) := by decide +kernel
theorem dJ0_length_8abf5_5 : decode cJ0_length_8abf5 5 = .ok (.aload_n 0, 1) := by decide +kernel
theorem dJ0_length_8abf5_6 : decode cJ0_length_8abf5 6 = .ok (.invokevirtual 335, 3) := by decide +kernel
theorem dJ0_length_8abf5_9 : decode cJ0_length_8abf5 9 = .ok (.ishr, 1) := by decide +kernel
theorem dJ0_length_8abf5_10 : decode cJ0_length_8abf5 10 = .ok (.ireturn, 1) := by decide +kernel
theorem dJ0_charAt_5068e_0 : decode cJ0_charAt_5068e 0 = .ok (.aload_n 0, 1) := by decide +kernel
theorem dJ0_charAt_5068e_1 : decode cJ0_charAt_5068e 1 = .ok (.invokevirtual 492, 3) := by decide +kernel
theorem dJ0_charAt_5068e_4 : decode cJ0_charAt_5068e 4 = .ok (.ifCond .eq 12, 3) := by decide +kernel
theorem dJ0_charAt_5068e_7 : decode cJ0_charAt_5068e 7 = .ok (.aload_n 0, 1) := by decide +kernel
theorem dJ0_charAt_5068e_8 : decode cJ0_charAt_5068e 8 = .ok (.getfield 9, 3) := by decide +kernel
theorem dJ0_charAt_5068e_11 : decode cJ0_charAt_5068e 11 = .ok (.iload_n 1, 1) := by decide +kernel
theorem dJ0_charAt_5068e_12 : decode cJ0_charAt_5068e 12 = .ok (.invokestatic 495, 3) := by decide +kernel
theorem dJ0_charAt_5068e_15 : decode cJ0_charAt_5068e 15 = .ok (.ireturn, 1) := by decide +kernel
theorem dJ0_charAt_5068e_16 : decode cJ0_charAt_5068e 16 = .ok (.aload_n 0, 1) := by decide +kernel
theorem dJ0_charAt_5068e_17 : decode cJ0_charAt_5068e 17 = .ok (.getfield 9, 3) := by decide +kernel
theorem dJ0_charAt_5068e_20 : decode cJ0_charAt_5068e 20 = .ok (.iload_n 1, 1) := by decide +kernel
theorem dJ0_charAt_5068e_21 : decode cJ0_charAt_5068e 21 = .ok (.invokestatic 498, 3) := by decide +kernel
theorem dJ0_charAt_5068e_24 : decode cJ0_charAt_5068e 24 = .ok (.ireturn, 1) := by decide +kernel
theorem dJ0_coder_7d493_0 : decode cJ0_coder_7d493 0 = .ok (.getstatic 38, 3) := by decide +kernel
theorem dJ0_coder_7d493_3 : decode cJ0_coder_7d493 3 = .ok (.ifCond .eq 10, 3) := by decide +kernel
theorem dJ0_coder_7d493_6 : decode cJ0_coder_7d493 6 = .ok (.aload_n 0, 1) := by decide +kernel
theorem dJ0_coder_7d493_7 : decode cJ0_coder_7d493 7 = .ok (.getfield 15, 3) := by decide +kernel
theorem dJ0_coder_7d493_10 : decode cJ0_coder_7d493 10 = .ok (.goto 4, 3) := by decide +kernel
theorem dJ0_coder_7d493_13 : decode cJ0_coder_7d493 13 = .ok (.iconst 1, 1) := by decide +kernel
theorem dJ0_coder_7d493_14 : decode cJ0_coder_7d493 14 = .ok (.ireturn, 1) := by decide +kernel
theorem dJ0_isLatin1_aae02_0 : decode cJ0_isLatin1_aae02 0 = .ok (.getstatic 38, 3) := by decide +kernel
theorem dJ0_isLatin1_aae02_3 : decode cJ0_isLatin1_aae02 3 = .ok (.ifCond .eq 14, 3) := by decide +kernel
theorem dJ0_isLatin1_aae02_6 : decode cJ0_isLatin1_aae02 6 = .ok (.aload_n 0, 1) := by decide +kernel
theorem dJ0_isLatin1_aae02_7 : decode cJ0_isLatin1_aae02 7 = .ok (.getfield 15, 3) := by decide +kernel
theorem dJ0_isLatin1_aae02_10 : decode cJ0_isLatin1_aae02 10 = .ok (.ifCond .ne 7, 3) := by decide +kernel
theorem dJ0_isLatin1_aae02_13 : decode cJ0_isLatin1_aae02 13 = .ok (.iconst 1, 1) := by decide +kernel
theorem dJ0_isLatin1_aae02_14 : decode cJ0_isLatin1_aae02 14 = .ok (.goto 4, 3) := by decide +kernel
theorem dJ0_isLatin1_aae02_17 : decode cJ0_isLatin1_aae02 17 = .ok (.iconst 0, 1) := by decide +kernel
theorem dJ0_isLatin1_aae02_18 : decode cJ0_isLatin1_aae02 18 = .ok (.ireturn, 1) := by decide +kernel
theorem dJ0_checkIndex_df160_0 : decode cJ0_checkIndex_df160 0 = .ok (.iload_n 0, 1) := by decide +kernel
theorem dJ0_checkIndex_df160_1 : decode cJ0_checkIndex_df160 1 = .ok (.iload_n 1, 1) := by decide +kernel
theorem dJ0_checkIndex_df160_2 : decode cJ0_checkIndex_df160 2 = .ok (.getstatic 1053, 3) := by decide +kernel
theorem dJ0_checkIndex_df160_5 : decode cJ0_checkIndex_df160 5 = .ok (.invokestatic 1059, 3) := by decide +kernel
theorem dJ0_checkIndex_df160_8 : decode cJ0_checkIndex_df160 8 = .ok (.pop, 1) := by decide +kernel
theorem dJ0_checkIndex_df160_9 : decode cJ0_checkIndex_df160 9 = .ok (.return_, 1) := by decide +kernel
theorem dJ1_charAt_3b067_0 : decode cJ1_charAt_3b067 0 = .ok (.iload_n 1, 1) := by decide +kernel
theorem dJ1_charAt_3b067_1 : decode cJ1_charAt_3b067 1 = .ok (.aload_n 0, 1) := by decide +kernel
theorem dJ1_charAt_3b067_2 : decode cJ1_charAt_3b067 2 = .ok (.arraylength, 1) := by decide +kernel
theorem dJ1_charAt_3b067_3 : decode cJ1_charAt_3b067 3 = .ok (.invokestatic 9, 3) := by decide +kernel
theorem dJ1_charAt_3b067_6 : decode cJ1_charAt_3b067 6 = .ok (.aload_n 0, 1) := by decide +kernel
theorem dJ1_charAt_3b067_7 : decode cJ1_charAt_3b067 7 = .ok (.iload_n 1, 1) := by decide +kernel
theorem dJ1_charAt_3b067_8 : decode cJ1_charAt_3b067 8 = .ok (.baload, 1) := by decide +kernel
theorem dJ1_charAt_3b067_9 : decode cJ1_charAt_3b067 9 = .ok (.sipush 255, 3) := by decide +kernel
theorem dJ1_charAt_3b067_12 : decode cJ1_charAt_3b067 12 = .ok (.iand, 1) := by decide +kernel
theorem dJ1_charAt_3b067_13 : decode cJ1_charAt_3b067 13 = .ok (.i2c, 1) := by decide +kernel
theorem dJ1_charAt_3b067_14 : decode cJ1_charAt_3b067 14 = .ok (.ireturn, 1) := by decide +kernel
theorem dJ2_getChar_3b067_0 : decode cJ2_getChar_3b067 0 = .ok (.getstatic 44, 3) := by decide +kernel
theorem dJ2_getChar_3b067_3 : decode cJ2_getChar_3b067 3 = .ok (.ifCond .ne 25, 3) := by decide +kernel
theorem dJ2_getChar_3b067_6 : decode cJ2_getChar_3b067 6 = .ok (.iload_n 1, 1) := by decide +kernel
theorem dJ2_getChar_3b067_7 : decode cJ2_getChar_3b067 7 = .ok (.ifCond .lt 11, 3) := by decide +kernel
theorem dJ2_getChar_3b067_10 : decode cJ2_getChar_3b067 10 = .ok (.iload_n 1, 1) := by decide +kernel
theorem dJ2_getChar_3b067_11 : decode cJ2_getChar_3b067 11 = .ok (.aload_n 0, 1) := by decide +kernel
theorem dJ2_getChar_3b067_12 : decode cJ2_getChar_3b067 12 = .ok (.invokestatic 48, 3) := by decide +kernel
theorem dJ2_getChar_3b067_15 : decode cJ2_getChar_3b067 15 = .ok (.if_icmp .lt 13, 3) := by decide +kernel
theorem dJ2_getChar_3b067_18 : decode cJ2_getChar_3b067 18 = .ok (.new 52, 3) := by decide +kernel
theorem dJ2_getChar_3b067_21 : decode cJ2_getChar_3b067 21 = .ok (.dup, 1) := by decide +kernel
theorem dJ2_getChar_3b067_22 : decode cJ2_getChar_3b067 22 = .ok (.ldc 54, 2) := by decide +kernel
theorem dJ2_getChar_3b067_24 : decode cJ2_getChar_3b067 24 = .ok (.invokespecial 56, 3) := by decide +kernel
theorem dJ2_getChar_3b067_27 : decode cJ2_getChar_3b067 27 = .ok (.athrow, 1) := by decide +kernel
theorem dJ2_getChar_3b067_28 : decode cJ2_getChar_3b067 28 = .ok (.iload_n 1, 1) := by decide +kernel
theorem dJ2_getChar_3b067_29 : decode cJ2_getChar_3b067 29 = .ok (.iconst 1, 1) := by decide +kernel
theorem dJ2_getChar_3b067_30 : decode cJ2_getChar_3b067 30 = .ok (.ishl, 1) := by decide +kernel
theorem dJ2_getChar_3b067_31 : decode cJ2_getChar_3b067 31 = .ok (.istore_n 1, 1) := by decide +kernel
theorem dJ2_getChar_3b067_32 : decode cJ2_getChar_3b067 32 = .ok (.aload_n 0, 1) := by decide +kernel
theorem dJ2_getChar_3b067_33 : decode cJ2_getChar_3b067 33 = .ok (.iload_n 1, 1) := by decide +kernel
theorem dJ2_getChar_3b067_34 : decode cJ2_getChar_3b067 34 = .ok (.iinc 1 1, 3) := by decide +kernel
theorem dJ2_getChar_3b067_37 : decode cJ2_getChar_3b067 37 = .ok (.baload, 1) := by decide +kernel
theorem dJ2_getChar_3b067_38 : decode cJ2_getChar_3b067 38 = .ok (.sipush 255, 3) := by decide +kernel
theorem dJ2_getChar_3b067_41 : decode cJ2_getChar_3b067 41 = .ok (.iand, 1) := by decide +kernel
theorem dJ2_getChar_3b067_42 : decode cJ2_getChar_3b067 42 = .ok (.getstatic 59, 3) := by decide +kernel
theorem dJ2_getChar_3b067_45 : decode cJ2_getChar_3b067 45 = .ok (.ishl, 1) := by decide +kernel
theorem dJ2_getChar_3b067_46 : decode cJ2_getChar_3b067 46 = .ok (.aload_n 0, 1) := by decide +kernel
theorem dJ2_getChar_3b067_47 : decode cJ2_getChar_3b067 47 = .ok (.iload_n 1, 1) := by decide +kernel
theorem dJ2_getChar_3b067_48 : decode cJ2_getChar_3b067 48 = .ok (.baload, 1) := by decide +kernel
theorem dJ2_getChar_3b067_49 : decode cJ2_getChar_3b067 49 = .ok (.sipush 255, 3) := by decide +kernel
theorem dJ2_getChar_3b067_52 : decode cJ2_getChar_3b067 52 = .ok (.iand, 1) := by decide +kernel
theorem dJ2_getChar_3b067_53 : decode cJ2_getChar_3b067 53 = .ok (.getstatic 63, 3) := by decide +kernel
theorem dJ2_getChar_3b067_56 : decode cJ2_getChar_3b067 56 = .ok (.ishl, 1) := by decide +kernel
theorem dJ2_getChar_3b067_57 : decode cJ2_getChar_3b067 57 = .ok (.ior, 1) := by decide +kernel
theorem dJ2_getChar_3b067_58 : decode cJ2_getChar_3b067 58 = .ok (.i2c, 1) := by decide +kernel
theorem dJ2_getChar_3b067_59 : decode cJ2_getChar_3b067 59 = .ok (.ireturn, 1) := by decide +kernel
theorem dJ2_length_9d52b_0 : decode cJ2_length_9d52b 0 = .ok (.aload_n 0, 1) := by decide +kernel
theorem dJ2_length_9d52b_1 : decode cJ2_length_9d52b 1 = .ok (.arraylength, 1) := by decide +kernel
theorem dJ2_length_9d52b_2 : decode cJ2_length_9d52b 2 = .ok (.iconst 1, 1) := by decide +kernel
theorem dJ2_length_9d52b_3 : decode cJ2_length_9d52b 3 = .ok (.ishr, 1) := by decide +kernel
theorem dJ2_length_9d52b_4 : decode cJ2_length_9d52b 4 = .ok (.ireturn, 1) := by decide +kernel
theorem dJ2_charAt_3b067_0 : decode cJ2_charAt_3b067 0 = .ok (.iload_n 1, 1) := by decide +kernel
theorem dJ2_charAt_3b067_1 : decode cJ2_charAt_3b067 1 = .ok (.aload_n 0, 1) := by decide +kernel
theorem dJ2_charAt_3b067_2 : decode cJ2_charAt_3b067 2 = .ok (.invokestatic 67, 3) := by decide +kernel
theorem dJ2_charAt_3b067_5 : decode cJ2_charAt_3b067 5 = .ok (.aload_n 0, 1) := by decide +kernel
theorem dJ2_charAt_3b067_6 : decode cJ2_charAt_3b067 6 = .ok (.iload_n 1, 1) := by decide +kernel
theorem dJ2_charAt_3b067_7 : decode cJ2_charAt_3b067 7 = .ok (.invokestatic 71, 3) := by decide +kernel
theorem dJ2_charAt_3b067_10 : decode cJ2_charAt_3b067 10 = .ok (.ireturn, 1) := by decide +kernel
theorem dJ2_checkIndex_2214a_0 : decode cJ2_checkIndex_2214a 0 = .ok (.iload_n 0, 1) := by decide +kernel
theorem dJ2_checkIndex_2214a_1 : decode cJ2_checkIndex_2214a 1 = .ok (.aload_n 1, 1) := by decide +kernel
theorem dJ2_checkIndex_2214a_2 : decode cJ2_checkIndex_2214a 2 = .ok (.invokestatic 48, 3) := by decide +kernel
theorem dJ2_checkIndex_2214a_5 : decode cJ2_checkIndex_2214a 5 = .ok (.invokestatic 414, 3) := by decide +kernel
theorem dJ2_checkIndex_2214a_8 : decode cJ2_checkIndex_2214a 8 = .ok (.return_, 1) := by decide +kernel
theorem dJ3_checkIndex_8e157_0 : decode cJ3_checkIndex_8e157 0 = .ok (.iload_n 0, 1) := by decide +kernel
theorem dJ3_checkIndex_8e157_1 : decode cJ3_checkIndex_8e157 1 = .ok (.ifCond .lt 8, 3) := by decide +kernel
theorem dJ3_checkIndex_8e157_4 : decode cJ3_checkIndex_8e157 4 = .ok (.iload_n 0, 1) := by decide +kernel
theorem dJ3_checkIndex_8e157_5 : decode cJ3_checkIndex_8e157 5 = .ok (.iload_n 1, 1) := by decide +kernel
theorem dJ3_checkIndex_8e157_6 : decode cJ3_checkIndex_8e157 6 = .ok (.if_icmp .lt 10, 3) := by decide +kernel
theorem dJ3_checkIndex_8e157_9 : decode cJ3_checkIndex_8e157 9 = .ok (.aload_n 2, 1) := by decide +kernel
theorem dJ3_checkIndex_8e157_10 : decode cJ3_checkIndex_8e157 10 = .ok (.iload_n 0, 1) := by decide +kernel
theorem dJ3_checkIndex_8e157_11 : decode cJ3_checkIndex_8e157 11 = .ok (.iload_n 1, 1) := by decide +kernel
theorem dJ3_checkIndex_8e157_12 : decode cJ3_checkIndex_8e157 12 = .ok (.invokestatic 95, 3) := by decide +kernel
theorem dJ3_checkIndex_8e157_15 : decode cJ3_checkIndex_8e157 15 = .ok (.athrow, 1) := by decide +kernel
theorem dJ3_checkIndex_8e157_16 : decode cJ3_checkIndex_8e157 16 = .ok (.iload_n 0, 1) := by decide +kernel
theorem dJ3_checkIndex_8e157_17 : decode cJ3_checkIndex_8e157 17 = .ok (.ireturn, 1) := by decide +kernel
