theorem dX0_init_0 : decode cX0_init 0 = .ok (.aload_n 0, 1) := by decide +kernel
theorem dX0_init_1 : decode cX0_init 1 = .ok (.invokespecial 3, 3) := by decide +kernel
theorem dX0_init_4 : decode cX0_init 4 = .ok (.aload_n 0, 1) := by decide +kernel
theorem dX0_init_5 : decode cX0_init 5 = .ok (.bipush 50, 2) := by decide +kernel
theorem dX0_init_7 : decode cX0_init 7 = .ok (.newarray .int, 2) := by decide +kernel
theorem dX0_init_9 : decode cX0_init 9 = .ok (.putfield 11, 3) := by decide +kernel
theorem dX0_init_12 : decode cX0_init 12 = .ok (.aload_n 0, 1) := by decide +kernel
theorem dX0_init_13 : decode cX0_init 13 = .ok (.bipush 24, 2) := by decide +kernel
theorem dX0_init_15 : decode cX0_init 15 = .ok (.newarray .int, 2) := by decide +kernel
theorem dX0_init_17 : decode cX0_init 17 = .ok (.putfield 15, 3) := by decide +kernel
theorem dX0_init_20 : decode cX0_init 20 = .ok (.return_, 1) := by decide +kernel
theorem dX0_add_0 : decode cX0_add 0 = .ok (.aload_n 0, 1) := by decide +kernel
theorem dX0_add_1 : decode cX0_add 1 = .ok (.getfield 18, 3) := by decide +kernel
theorem dX0_add_4 : decode cX0_add 4 = .ok (.ifCond .lt 12, 3) := by decide +kernel
theorem dX0_add_7 : decode cX0_add 7 = .ok (.aload_n 0, 1) := by decide +kernel
theorem dX0_add_8 : decode cX0_add 8 = .ok (.getfield 18, 3) := by decide +kernel
theorem dX0_add_11 : decode cX0_add 11 = .ok (.bipush 50, 2) := by decide +kernel
theorem dX0_add_13 : decode cX0_add 13 = .ok (.if_icmp .lt 6, 3) := by decide +kernel
theorem dX0_add_16 : decode cX0_add 16 = .ok (.bipush (-3), 2) := by decide +kernel
theorem dX0_add_18 : decode cX0_add 18 = .ok (.ireturn, 1) := by decide +kernel
theorem dX0_add_19 : decode cX0_add 19 = .ok (.aload_n 0, 1) := by decide +kernel
theorem dX0_add_20 : decode cX0_add 20 = .ok (.getfield 11, 3) := by decide +kernel
theorem dX0_add_23 : decode cX0_add 23 = .ok (.aload_n 0, 1) := by decide +kernel
theorem dX0_add_24 : decode cX0_add 24 = .ok (.getfield 18, 3) := by decide +kernel
theorem dX0_add_27 : decode cX0_add 27 = .ok (.iload_n 1, 1) := by decide +kernel
theorem dX0_add_28 : decode cX0_add 28 = .ok (.iastore, 1) := by decide +kernel
theorem dX0_add_29 : decode cX0_add 29 = .ok (.aload_n 0, 1) := by decide +kernel
theorem dX0_add_30 : decode cX0_add 30 = .ok (.dup, 1) := by decide +kernel
theorem dX0_add_31 : decode cX0_add 31 = .ok (.getfield 18, 3) := by decide +kernel
theorem dX0_add_34 : decode cX0_add 34 = .ok (.dup_x1, 1) := by decide +kernel
theorem dX0_add_35 : decode cX0_add 35 = .ok (.iconst 1, 1) := by decide +kernel
theorem dX0_add_36 : decode cX0_add 36 = .ok (.iadd, 1) := by decide +kernel
theorem dX0_add_37 : decode cX0_add 37 = .ok (.putfield 18, 3) := by decide +kernel
theorem dX0_add_40 : decode cX0_add 40 = .ok (.ireturn, 1) := by decide +kernel
theorem dX0_kindOf_0 : decode cX0_kindOf 0 = .ok (.iload_n 1, 1) := by decide +kernel
theorem dX0_kindOf_1 : decode cX0_kindOf 1 = .ok (.ifCond .lt 26, 3) := by decide +kernel
theorem dX0_kindOf_4 : decode cX0_kindOf 4 = .ok (.iload_n 1, 1) := by decide +kernel
theorem dX0_kindOf_5 : decode cX0_kindOf 5 = .ok (.aload_n 0, 1) := by decide +kernel
theorem dX0_kindOf_6 : decode cX0_kindOf 6 = .ok (.getfield 18, 3) := by decide +kernel
theorem dX0_kindOf_9 : decode cX0_kindOf 9 = .ok (.if_icmp .ge 18, 3) := by decide +kernel
theorem dX0_kindOf_12 : decode cX0_kindOf 12 = .ok (.iload_n 1, 1) := by decide +kernel
theorem dX0_kindOf_13 : decode cX0_kindOf 13 = .ok (.bipush 50, 2) := by decide +kernel
theorem dX0_kindOf_15 : decode cX0_kindOf 15 = .ok (.if_icmp .ge 12, 3) := by decide +kernel
theorem dX0_kindOf_18 : decode cX0_kindOf 18 = .ok (.aload_n 0, 1) := by decide +kernel
theorem dX0_kindOf_19 : decode cX0_kindOf 19 = .ok (.getfield 11, 3) := by decide +kernel
theorem dX0_kindOf_22 : decode cX0_kindOf 22 = .ok (.iload_n 1, 1) := by decide +kernel
theorem dX0_kindOf_23 : decode cX0_kindOf 23 = .ok (.iaload, 1) := by decide +kernel
theorem dX0_kindOf_24 : decode cX0_kindOf 24 = .ok (.goto 4, 3) := by decide +kernel
theorem dX0_kindOf_27 : decode cX0_kindOf 27 = .ok (.iconst (-1), 1) := by decide +kernel
theorem dX0_kindOf_28 : decode cX0_kindOf 28 = .ok (.ireturn, 1) := by decide +kernel
theorem dX0_above_0 : decode cX0_above 0 = .ok (.iload_n 0, 1) := by decide +kernel
theorem dX0_above_1 : decode cX0_above 1 = .ok (.ifCond .lt 17, 3) := by decide +kernel
theorem dX0_above_4 : decode cX0_above 4 = .ok (.iload_n 0, 1) := by decide +kernel
theorem dX0_above_5 : decode cX0_above 5 = .ok (.bipush 8, 2) := by decide +kernel
theorem dX0_above_7 : decode cX0_above 7 = .ok (.if_icmp .ge 11, 3) := by decide +kernel
theorem dX0_above_10 : decode cX0_above 10 = .ok (.getstatic 22, 3) := by decide +kernel
theorem dX0_above_13 : decode cX0_above 13 = .ok (.iload_n 0, 1) := by decide +kernel
theorem dX0_above_14 : decode cX0_above 14 = .ok (.iaload, 1) := by decide +kernel
theorem dX0_above_15 : decode cX0_above 15 = .ok (.goto 4, 3) := by decide +kernel
theorem dX0_above_18 : decode cX0_above 18 = .ok (.iconst (-1), 1) := by decide +kernel
theorem dX0_above_19 : decode cX0_above 19 = .ok (.ireturn, 1) := by decide +kernel
theorem dX0_isUnder_0 : decode cX0_isUnder 0 = .ok (.iload_n 0, 1) := by decide +kernel
theorem dX0_isUnder_1 : decode cX0_isUnder 1 = .ok (.istore_n 2, 1) := by decide +kernel
theorem dX0_isUnder_2 : decode cX0_isUnder 2 = .ok (.iconst 0, 1) := by decide +kernel
theorem dX0_isUnder_3 : decode cX0_isUnder 3 = .ok (.istore_n 3, 1) := by decide +kernel
theorem dX0_isUnder_4 : decode cX0_isUnder 4 = .ok (.iload_n 3, 1) := by decide +kernel
theorem dX0_isUnder_5 : decode cX0_isUnder 5 = .ok (.bipush 8, 2) := by decide +kernel
theorem dX0_isUnder_7 : decode cX0_isUnder 7 = .ok (.if_icmp .ge 25, 3) := by decide +kernel
theorem dX0_isUnder_10 : decode cX0_isUnder 10 = .ok (.iload_n 2, 1) := by decide +kernel
theorem dX0_isUnder_11 : decode cX0_isUnder 11 = .ok (.ifCond .lt 21, 3) := by decide +kernel
theorem dX0_isUnder_14 : decode cX0_isUnder 14 = .ok (.iload_n 2, 1) := by decide +kernel
theorem dX0_isUnder_15 : decode cX0_isUnder 15 = .ok (.iload_n 1, 1) := by decide +kernel
theorem dX0_isUnder_16 : decode cX0_isUnder 16 = .ok (.if_icmp .ne 5, 3) := by decide +kernel
theorem dX0_isUnder_19 : decode cX0_isUnder 19 = .ok (.iconst 1, 1) := by decide +kernel
theorem dX0_isUnder_20 : decode cX0_isUnder 20 = .ok (.ireturn, 1) := by decide +kernel
theorem dX0_isUnder_21 : decode cX0_isUnder 21 = .ok (.iload_n 2, 1) := by decide +kernel
theorem dX0_isUnder_22 : decode cX0_isUnder 22 = .ok (.invokestatic 25, 3) := by decide +kernel
theorem dX0_isUnder_25 : decode cX0_isUnder 25 = .ok (.istore_n 2, 1) := by decide +kernel
theorem dX0_isUnder_26 : decode cX0_isUnder 26 = .ok (.iinc 3 1, 3) := by decide +kernel
theorem dX0_isUnder_29 : decode cX0_isUnder 29 = .ok (.goto (-25), 3) := by decide +kernel
theorem dX0_isUnder_32 : decode cX0_isUnder 32 = .ok (.iconst 0, 1) := by decide +kernel
theorem dX0_isUnder_33 : decode cX0_isUnder 33 = .ok (.ireturn, 1) := by decide +kernel
theorem dX0_ranAt_0 : decode cX0_ranAt 0 = .ok (.iload_n 1, 1) := by decide +kernel
theorem dX0_ranAt_1 : decode cX0_ranAt 1 = .ok (.ifCond .lt 26, 3) := by decide +kernel
theorem dX0_ranAt_4 : decode cX0_ranAt 4 = .ok (.iload_n 1, 1) := by decide +kernel
theorem dX0_ranAt_5 : decode cX0_ranAt 5 = .ok (.aload_n 0, 1) := by decide +kernel
theorem dX0_ranAt_6 : decode cX0_ranAt 6 = .ok (.getfield 29, 3) := by decide +kernel
theorem dX0_ranAt_9 : decode cX0_ranAt 9 = .ok (.if_icmp .ge 18, 3) := by decide +kernel
theorem dX0_ranAt_12 : decode cX0_ranAt 12 = .ok (.iload_n 1, 1) := by decide +kernel
theorem dX0_ranAt_13 : decode cX0_ranAt 13 = .ok (.bipush 24, 2) := by decide +kernel
theorem dX0_ranAt_15 : decode cX0_ranAt 15 = .ok (.if_icmp .ge 12, 3) := by decide +kernel
theorem dX0_ranAt_18 : decode cX0_ranAt 18 = .ok (.aload_n 0, 1) := by decide +kernel
theorem dX0_ranAt_19 : decode cX0_ranAt 19 = .ok (.getfield 15, 3) := by decide +kernel
theorem dX0_ranAt_22 : decode cX0_ranAt 22 = .ok (.iload_n 1, 1) := by decide +kernel
theorem dX0_ranAt_23 : decode cX0_ranAt 23 = .ok (.iaload, 1) := by decide +kernel
theorem dX0_ranAt_24 : decode cX0_ranAt 24 = .ok (.goto 4, 3) := by decide +kernel
theorem dX0_ranAt_27 : decode cX0_ranAt 27 = .ok (.iconst (-1), 1) := by decide +kernel
theorem dX0_ranAt_28 : decode cX0_ranAt 28 = .ok (.ireturn, 1) := by decide +kernel
theorem dX0_runAct_0 : decode cX0_runAct 0 = .ok (.aload_n 0, 1) := by decide +kernel
theorem dX0_runAct_1 : decode cX0_runAct 1 = .ok (.iconst 0, 1) := by decide +kernel
theorem dX0_runAct_2 : decode cX0_runAct 2 = .ok (.putfield 29, 3) := by decide +kernel
theorem dX0_runAct_5 : decode cX0_runAct 5 = .ok (.aload_n 0, 1) := by decide +kernel
theorem dX0_runAct_6 : decode cX0_runAct 6 = .ok (.iload_n 1, 1) := by decide +kernel
theorem dX0_runAct_7 : decode cX0_runAct 7 = .ok (.putfield 32, 3) := by decide +kernel
theorem dX0_runAct_10 : decode cX0_runAct 10 = .ok (.aload_n 0, 1) := by decide +kernel
theorem dX0_runAct_11 : decode cX0_runAct 11 = .ok (.aload_n 0, 1) := by decide +kernel
theorem dX0_runAct_12 : decode cX0_runAct 12 = .ok (.iload_n 1, 1) := by decide +kernel
theorem dX0_runAct_13 : decode cX0_runAct 13 = .ok (.invokevirtual 35, 3) := by decide +kernel
theorem dX0_runAct_16 : decode cX0_runAct 16 = .ok (.putfield 38, 3) := by decide +kernel
theorem dX0_runAct_19 : decode cX0_runAct 19 = .ok (.iload_n 2, 1) := by decide +kernel
theorem dX0_runAct_20 : decode cX0_runAct 20 = .ok (.tableswitch 72 0 3 #[32, 42, 52, 62], 32) := by decide +kernel
theorem dX0_runAct_52 : decode cX0_runAct 52 = .ok (.aload_n 0, 1) := by decide +kernel
theorem dX0_runAct_53 : decode cX0_runAct 53 = .ok (.aload_n 0, 1) := by decide +kernel
theorem dX0_runAct_54 : decode cX0_runAct 54 = .ok (.getfield 38, 3) := by decide +kernel
theorem dX0_runAct_57 : decode cX0_runAct 57 = .ok (.iload_n 3, 1) := by decide +kernel
theorem dX0_runAct_58 : decode cX0_runAct 58 = .ok (.invokevirtual 41, 3) := by decide +kernel
theorem dX0_runAct_61 : decode cX0_runAct 61 = .ok (.ireturn, 1) := by decide +kernel
theorem dX0_runAct_62 : decode cX0_runAct 62 = .ok (.aload_n 0, 1) := by decide +kernel
theorem dX0_runAct_63 : decode cX0_runAct 63 = .ok (.aload_n 0, 1) := by decide +kernel
theorem dX0_runAct_64 : decode cX0_runAct 64 = .ok (.getfield 38, 3) := by decide +kernel
theorem dX0_runAct_67 : decode cX0_runAct 67 = .ok (.iload_n 3, 1) := by decide +kernel
theorem dX0_runAct_68 : decode cX0_runAct 68 = .ok (.invokevirtual 45, 3) := by decide +kernel
theorem dX0_runAct_71 : decode cX0_runAct 71 = .ok (.ireturn, 1) := by decide +kernel
theorem dX0_runAct_72 : decode cX0_runAct 72 = .ok (.aload_n 0, 1) := by decide +kernel
theorem dX0_runAct_73 : decode cX0_runAct 73 = .ok (.aload_n 0, 1) := by decide +kernel
theorem dX0_runAct_74 : decode cX0_runAct 74 = .ok (.getfield 38, 3) := by decide +kernel
theorem dX0_runAct_77 : decode cX0_runAct 77 = .ok (.iload_n 3, 1) := by decide +kernel
theorem dX0_runAct_78 : decode cX0_runAct 78 = .ok (.invokevirtual 48, 3) := by decide +kernel
theorem dX0_runAct_81 : decode cX0_runAct 81 = .ok (.ireturn, 1) := by decide +kernel
theorem dX0_runAct_82 : decode cX0_runAct 82 = .ok (.aload_n 0, 1) := by decide +kernel
theorem dX0_runAct_83 : decode cX0_runAct 83 = .ok (.aload_n 0, 1) := by decide +kernel
theorem dX0_runAct_84 : decode cX0_runAct 84 = .ok (.getfield 38, 3) := by decide +kernel
theorem dX0_runAct_87 : decode cX0_runAct 87 = .ok (.iload_n 3, 1) := by decide +kernel
theorem dX0_runAct_88 : decode cX0_runAct 88 = .ok (.invokevirtual 51, 3) := by decide +kernel
theorem dX0_runAct_91 : decode cX0_runAct 91 = .ok (.ireturn, 1) := by decide +kernel
theorem dX0_runAct_92 : decode cX0_runAct 92 = .ok (.iconst 0, 1) := by decide +kernel
theorem dX0_runAct_93 : decode cX0_runAct 93 = .ok (.ireturn, 1) := by decide +kernel
theorem dX0_begins_0 : decode cX0_begins 0 = .ok (.aload_n 0, 1) := by decide +kernel
theorem dX0_begins_1 : decode cX0_begins 1 = .ok (.getfield 29, 3) := by decide +kernel
theorem dX0_begins_4 : decode cX0_begins 4 = .ok (.ifCond .lt 22, 3) := by decide +kernel
theorem dX0_begins_7 : decode cX0_begins 7 = .ok (.aload_n 0, 1) := by decide +kernel
theorem dX0_begins_8 : decode cX0_begins 8 = .ok (.getfield 29, 3) := by decide +kernel
theorem dX0_begins_11 : decode cX0_begins 11 = .ok (.bipush 24, 2) := by decide +kernel
theorem dX0_begins_13 : decode cX0_begins 13 = .ok (.if_icmp .ge 13, 3) := by decide +kernel
theorem dX0_begins_16 : decode cX0_begins 16 = .ok (.aload_n 0, 1) := by decide +kernel
theorem dX0_begins_17 : decode cX0_begins 17 = .ok (.getfield 15, 3) := by decide +kernel
theorem dX0_begins_20 : decode cX0_begins 20 = .ok (.aload_n 0, 1) := by decide +kernel
theorem dX0_begins_21 : decode cX0_begins 21 = .ok (.getfield 29, 3) := by decide +kernel
theorem dX0_begins_24 : decode cX0_begins 24 = .ok (.iload_n 1, 1) := by decide +kernel
theorem dX0_begins_25 : decode cX0_begins 25 = .ok (.iastore, 1) := by decide +kernel
theorem dX0_begins_26 : decode cX0_begins 26 = .ok (.aload_n 0, 1) := by decide +kernel
theorem dX0_begins_27 : decode cX0_begins 27 = .ok (.dup, 1) := by decide +kernel
theorem dX0_begins_28 : decode cX0_begins 28 = .ok (.getfield 29, 3) := by decide +kernel
theorem dX0_begins_31 : decode cX0_begins 31 = .ok (.iconst 1, 1) := by decide +kernel
theorem dX0_begins_32 : decode cX0_begins 32 = .ok (.iadd, 1) := by decide +kernel
theorem dX0_begins_33 : decode cX0_begins 33 = .ok (.putfield 29, 3) := by decide +kernel
theorem dX0_begins_36 : decode cX0_begins 36 = .ok (.return_, 1) := by decide +kernel
theorem dX0_says_0 : decode cX0_says 0 = .ok (.iload_n 1, 1) := by decide +kernel
theorem dX0_says_1 : decode cX0_says 1 = .ok (.tableswitch 113 0 7 #[47, 59, 113, 113, 113, 113, 77, 95], 47) := by decide +kernel
theorem dX0_says_48 : decode cX0_says 48 = .ok (.aload_n 0, 1) := by decide +kernel
theorem dX0_says_49 : decode cX0_says 49 = .ok (.iconst 1, 1) := by decide +kernel
theorem dX0_says_50 : decode cX0_says 50 = .ok (.invokevirtual 54, 3) := by decide +kernel
theorem dX0_says_53 : decode cX0_says 53 = .ok (.iload_n 2, 1) := by decide +kernel
theorem dX0_says_54 : decode cX0_says 54 = .ok (.aload_n 0, 1) := by decide +kernel
theorem dX0_says_55 : decode cX0_says 55 = .ok (.getfield 32, 3) := by decide +kernel
theorem dX0_says_58 : decode cX0_says 58 = .ok (.iadd, 1) := by decide +kernel
theorem dX0_says_59 : decode cX0_says 59 = .ok (.ireturn, 1) := by decide +kernel
theorem dX0_says_60 : decode cX0_says 60 = .ok (.aload_n 0, 1) := by decide +kernel
theorem dX0_says_61 : decode cX0_says 61 = .ok (.bipush 20, 2) := by decide +kernel
theorem dX0_says_63 : decode cX0_says 63 = .ok (.invokevirtual 54, 3) := by decide +kernel
theorem dX0_says_66 : decode cX0_says 66 = .ok (.aload_n 0, 1) := by decide +kernel
theorem dX0_says_67 : decode cX0_says 67 = .ok (.iload_n 1, 1) := by decide +kernel
theorem dX0_says_68 : decode cX0_says 68 = .ok (.invokestatic 25, 3) := by decide +kernel
theorem dX0_says_71 : decode cX0_says 71 = .ok (.iload_n 2, 1) := by decide +kernel
theorem dX0_says_72 : decode cX0_says 72 = .ok (.invokevirtual 41, 3) := by decide +kernel
theorem dX0_says_75 : decode cX0_says 75 = .ok (.iconst 3, 1) := by decide +kernel
theorem dX0_says_76 : decode cX0_says 76 = .ok (.iadd, 1) := by decide +kernel
theorem dX0_says_77 : decode cX0_says 77 = .ok (.ireturn, 1) := by decide +kernel
theorem dX0_says_78 : decode cX0_says 78 = .ok (.aload_n 0, 1) := by decide +kernel
theorem dX0_says_79 : decode cX0_says 79 = .ok (.bipush 70, 2) := by decide +kernel
theorem dX0_says_81 : decode cX0_says 81 = .ok (.invokevirtual 54, 3) := by decide +kernel
theorem dX0_says_84 : decode cX0_says 84 = .ok (.aload_n 0, 1) := by decide +kernel
theorem dX0_says_85 : decode cX0_says 85 = .ok (.iload_n 1, 1) := by decide +kernel
theorem dX0_says_86 : decode cX0_says 86 = .ok (.invokestatic 25, 3) := by decide +kernel
theorem dX0_says_89 : decode cX0_says 89 = .ok (.iload_n 2, 1) := by decide +kernel
theorem dX0_says_90 : decode cX0_says 90 = .ok (.invokevirtual 41, 3) := by decide +kernel
theorem dX0_says_93 : decode cX0_says 93 = .ok (.iconst 2, 1) := by decide +kernel
theorem dX0_says_94 : decode cX0_says 94 = .ok (.imul, 1) := by decide +kernel
theorem dX0_says_95 : decode cX0_says 95 = .ok (.ireturn, 1) := by decide +kernel
theorem dX0_says_96 : decode cX0_says 96 = .ok (.aload_n 0, 1) := by decide +kernel
theorem dX0_says_97 : decode cX0_says 97 = .ok (.bipush 81, 2) := by decide +kernel
theorem dX0_says_99 : decode cX0_says 99 = .ok (.invokevirtual 54, 3) := by decide +kernel
theorem dX0_says_102 : decode cX0_says 102 = .ok (.aload_n 0, 1) := by decide +kernel
theorem dX0_says_103 : decode cX0_says 103 = .ok (.iload_n 1, 1) := by decide +kernel
theorem dX0_says_104 : decode cX0_says 104 = .ok (.invokestatic 25, 3) := by decide +kernel
theorem dX0_says_107 : decode cX0_says 107 = .ok (.iload_n 2, 1) := by decide +kernel
theorem dX0_says_108 : decode cX0_says 108 = .ok (.invokevirtual 41, 3) := by decide +kernel
theorem dX0_says_111 : decode cX0_says 111 = .ok (.iconst 1, 1) := by decide +kernel
theorem dX0_says_112 : decode cX0_says 112 = .ok (.isub, 1) := by decide +kernel
theorem dX0_says_113 : decode cX0_says 113 = .ok (.ireturn, 1) := by decide +kernel
theorem dX0_says_114 : decode cX0_says 114 = .ok (.iload_n 1, 1) := by decide +kernel
theorem dX0_says_115 : decode cX0_says 115 = .ok (.ifCond .ge 7, 3) := by decide +kernel
theorem dX0_says_118 : decode cX0_says 118 = .ok (.iconst 0, 1) := by decide +kernel
theorem dX0_says_119 : decode cX0_says 119 = .ok (.goto 12, 3) := by decide +kernel
theorem dX0_says_122 : decode cX0_says 122 = .ok (.aload_n 0, 1) := by decide +kernel
theorem dX0_says_123 : decode cX0_says 123 = .ok (.iload_n 1, 1) := by decide +kernel
theorem dX0_says_124 : decode cX0_says 124 = .ok (.invokestatic 25, 3) := by decide +kernel
theorem dX0_says_127 : decode cX0_says 127 = .ok (.iload_n 2, 1) := by decide +kernel
theorem dX0_says_128 : decode cX0_says 128 = .ok (.invokevirtual 41, 3) := by decide +kernel
theorem dX0_says_131 : decode cX0_says 131 = .ok (.ireturn, 1) := by decide +kernel
theorem dX0_costs_0 : decode cX0_costs 0 = .ok (.iload_n 1, 1) := by decide +kernel
theorem dX0_costs_1 : decode cX0_costs 1 = .ok (.tableswitch 128 0 7 #[47, 128, 65, 82, 128, 128, 128, 100], 47) := by decide +kernel
theorem dX0_costs_48 : decode cX0_costs 48 = .ok (.aload_n 0, 1) := by decide +kernel
theorem dX0_costs_49 : decode cX0_costs 49 = .ok (.bipush 10, 2) := by decide +kernel
theorem dX0_costs_51 : decode cX0_costs 51 = .ok (.invokevirtual 54, 3) := by decide +kernel
theorem dX0_costs_54 : decode cX0_costs 54 = .ok (.aload_n 0, 1) := by decide +kernel
theorem dX0_costs_55 : decode cX0_costs 55 = .ok (.aload_n 0, 1) := by decide +kernel
theorem dX0_costs_56 : decode cX0_costs 56 = .ok (.getfield 38, 3) := by decide +kernel
theorem dX0_costs_59 : decode cX0_costs 59 = .ok (.iload_n 2, 1) := by decide +kernel
theorem dX0_costs_60 : decode cX0_costs 60 = .ok (.invokevirtual 41, 3) := by decide +kernel
theorem dX0_costs_63 : decode cX0_costs 63 = .ok (.iconst 2, 1) := by decide +kernel
theorem dX0_costs_64 : decode cX0_costs 64 = .ok (.imul, 1) := by decide +kernel
theorem dX0_costs_65 : decode cX0_costs 65 = .ok (.ireturn, 1) := by decide +kernel
theorem dX0_costs_66 : decode cX0_costs 66 = .ok (.aload_n 0, 1) := by decide +kernel
theorem dX0_costs_67 : decode cX0_costs 67 = .ok (.bipush 30, 2) := by decide +kernel
theorem dX0_costs_69 : decode cX0_costs 69 = .ok (.invokevirtual 54, 3) := by decide +kernel
theorem dX0_costs_72 : decode cX0_costs 72 = .ok (.aload_n 0, 1) := by decide +kernel
theorem dX0_costs_73 : decode cX0_costs 73 = .ok (.iload_n 1, 1) := by decide +kernel
theorem dX0_costs_74 : decode cX0_costs 74 = .ok (.invokestatic 25, 3) := by decide +kernel
theorem dX0_costs_77 : decode cX0_costs 77 = .ok (.iload_n 2, 1) := by decide +kernel
theorem dX0_costs_78 : decode cX0_costs 78 = .ok (.invokevirtual 45, 3) := by decide +kernel
theorem dX0_costs_81 : decode cX0_costs 81 = .ok (.ineg, 1) := by decide +kernel
theorem dX0_costs_82 : decode cX0_costs 82 = .ok (.ireturn, 1) := by decide +kernel
theorem dX0_costs_83 : decode cX0_costs 83 = .ok (.aload_n 0, 1) := by decide +kernel
theorem dX0_costs_84 : decode cX0_costs 84 = .ok (.bipush 41, 2) := by decide +kernel
theorem dX0_costs_86 : decode cX0_costs 86 = .ok (.invokevirtual 54, 3) := by decide +kernel
theorem dX0_costs_89 : decode cX0_costs 89 = .ok (.aload_n 0, 1) := by decide +kernel
theorem dX0_costs_90 : decode cX0_costs 90 = .ok (.iload_n 1, 1) := by decide +kernel
theorem dX0_costs_91 : decode cX0_costs 91 = .ok (.invokestatic 25, 3) := by decide +kernel
theorem dX0_costs_94 : decode cX0_costs 94 = .ok (.iload_n 2, 1) := by decide +kernel
theorem dX0_costs_95 : decode cX0_costs 95 = .ok (.iconst 1, 1) := by decide +kernel
theorem dX0_costs_96 : decode cX0_costs 96 = .ok (.iadd, 1) := by decide +kernel
theorem dX0_costs_97 : decode cX0_costs 97 = .ok (.invokevirtual 45, 3) := by decide +kernel
theorem dX0_costs_100 : decode cX0_costs 100 = .ok (.ireturn, 1) := by decide +kernel
theorem dX0_costs_101 : decode cX0_costs 101 = .ok (.aload_n 0, 1) := by decide +kernel
theorem dX0_costs_102 : decode cX0_costs 102 = .ok (.bipush 80, 2) := by decide +kernel
theorem dX0_costs_104 : decode cX0_costs 104 = .ok (.invokevirtual 54, 3) := by decide +kernel
theorem dX0_costs_107 : decode cX0_costs 107 = .ok (.aload_n 0, 1) := by decide +kernel
theorem dX0_costs_108 : decode cX0_costs 108 = .ok (.iload_n 1, 1) := by decide +kernel
theorem dX0_costs_109 : decode cX0_costs 109 = .ok (.invokestatic 25, 3) := by decide +kernel
theorem dX0_costs_112 : decode cX0_costs 112 = .ok (.iload_n 2, 1) := by decide +kernel
theorem dX0_costs_113 : decode cX0_costs 113 = .ok (.invokevirtual 45, 3) := by decide +kernel
theorem dX0_costs_116 : decode cX0_costs 116 = .ok (.istore_n 3, 1) := by decide +kernel
theorem dX0_costs_117 : decode cX0_costs 117 = .ok (.iload_n 3, 1) := by decide +kernel
theorem dX0_costs_118 : decode cX0_costs 118 = .ok (.aload_n 0, 1) := by decide +kernel
theorem dX0_costs_119 : decode cX0_costs 119 = .ok (.aload_n 0, 1) := by decide +kernel
theorem dX0_costs_120 : decode cX0_costs 120 = .ok (.getfield 38, 3) := by decide +kernel
theorem dX0_costs_123 : decode cX0_costs 123 = .ok (.iconst 2, 1) := by decide +kernel
theorem dX0_costs_124 : decode cX0_costs 124 = .ok (.invokevirtual 48, 3) := by decide +kernel
theorem dX0_costs_127 : decode cX0_costs 127 = .ok (.iadd, 1) := by decide +kernel
theorem dX0_costs_128 : decode cX0_costs 128 = .ok (.ireturn, 1) := by decide +kernel
theorem dX0_costs_129 : decode cX0_costs 129 = .ok (.iload_n 1, 1) := by decide +kernel
theorem dX0_costs_130 : decode cX0_costs 130 = .ok (.ifCond .ge 7, 3) := by decide +kernel
theorem dX0_costs_133 : decode cX0_costs 133 = .ok (.iconst 0, 1) := by decide +kernel
theorem dX0_costs_134 : decode cX0_costs 134 = .ok (.goto 12, 3) := by decide +kernel
theorem dX0_costs_137 : decode cX0_costs 137 = .ok (.aload_n 0, 1) := by decide +kernel
theorem dX0_costs_138 : decode cX0_costs 138 = .ok (.iload_n 1, 1) := by decide +kernel
theorem dX0_costs_139 : decode cX0_costs 139 = .ok (.invokestatic 25, 3) := by decide +kernel
theorem dX0_costs_142 : decode cX0_costs 142 = .ok (.iload_n 2, 1) := by decide +kernel
theorem dX0_costs_143 : decode cX0_costs 143 = .ok (.invokevirtual 45, 3) := by decide +kernel
theorem dX0_costs_146 : decode cX0_costs 146 = .ok (.ireturn, 1) := by decide +kernel
theorem dX0_errs_0 : decode cX0_errs 0 = .ok (.iload_n 1, 1) := by decide +kernel
theorem dX0_errs_1 : decode cX0_errs 1 = .ok (.lookupswitch 94 #[(0, 35), (3, 48), (5, 66)], 35) := by decide +kernel
theorem dX0_errs_36 : decode cX0_errs 36 = .ok (.aload_n 0, 1) := by decide +kernel
theorem dX0_errs_37 : decode cX0_errs 37 = .ok (.bipush 11, 2) := by decide +kernel
theorem dX0_errs_39 : decode cX0_errs 39 = .ok (.invokevirtual 54, 3) := by decide +kernel
theorem dX0_errs_42 : decode cX0_errs 42 = .ok (.iload_n 2, 1) := by decide +kernel
theorem dX0_errs_43 : decode cX0_errs 43 = .ok (.aload_n 0, 1) := by decide +kernel
theorem dX0_errs_44 : decode cX0_errs 44 = .ok (.getfield 32, 3) := by decide +kernel
theorem dX0_errs_47 : decode cX0_errs 47 = .ok (.ixor, 1) := by decide +kernel
theorem dX0_errs_48 : decode cX0_errs 48 = .ok (.ireturn, 1) := by decide +kernel
theorem dX0_errs_49 : decode cX0_errs 49 = .ok (.aload_n 0, 1) := by decide +kernel
theorem dX0_errs_50 : decode cX0_errs 50 = .ok (.bipush 40, 2) := by decide +kernel
theorem dX0_errs_52 : decode cX0_errs 52 = .ok (.invokevirtual 54, 3) := by decide +kernel
theorem dX0_errs_55 : decode cX0_errs 55 = .ok (.aload_n 0, 1) := by decide +kernel
theorem dX0_errs_56 : decode cX0_errs 56 = .ok (.iload_n 1, 1) := by decide +kernel
theorem dX0_errs_57 : decode cX0_errs 57 = .ok (.invokestatic 25, 3) := by decide +kernel
theorem dX0_errs_60 : decode cX0_errs 60 = .ok (.iload_n 2, 1) := by decide +kernel
theorem dX0_errs_61 : decode cX0_errs 61 = .ok (.invokevirtual 48, 3) := by decide +kernel
theorem dX0_errs_64 : decode cX0_errs 64 = .ok (.iconst 3, 1) := by decide +kernel
theorem dX0_errs_65 : decode cX0_errs 65 = .ok (.imul, 1) := by decide +kernel
theorem dX0_errs_66 : decode cX0_errs 66 = .ok (.ireturn, 1) := by decide +kernel
theorem dX0_errs_67 : decode cX0_errs 67 = .ok (.aload_n 0, 1) := by decide +kernel
theorem dX0_errs_68 : decode cX0_errs 68 = .ok (.bipush 60, 2) := by decide +kernel
theorem dX0_errs_70 : decode cX0_errs 70 = .ok (.invokevirtual 54, 3) := by decide +kernel
theorem dX0_errs_73 : decode cX0_errs 73 = .ok (.aload_n 0, 1) := by decide +kernel
theorem dX0_errs_74 : decode cX0_errs 74 = .ok (.iload_n 1, 1) := by decide +kernel
theorem dX0_errs_75 : decode cX0_errs 75 = .ok (.invokestatic 25, 3) := by decide +kernel
theorem dX0_errs_78 : decode cX0_errs 78 = .ok (.iload_n 2, 1) := by decide +kernel
theorem dX0_errs_79 : decode cX0_errs 79 = .ok (.invokevirtual 48, 3) := by decide +kernel
theorem dX0_errs_82 : decode cX0_errs 82 = .ok (.istore_n 3, 1) := by decide +kernel
theorem dX0_errs_83 : decode cX0_errs 83 = .ok (.iload_n 3, 1) := by decide +kernel
theorem dX0_errs_84 : decode cX0_errs 84 = .ok (.aload_n 0, 1) := by decide +kernel
theorem dX0_errs_85 : decode cX0_errs 85 = .ok (.aload_n 0, 1) := by decide +kernel
theorem dX0_errs_86 : decode cX0_errs 86 = .ok (.getfield 38, 3) := by decide +kernel
theorem dX0_errs_89 : decode cX0_errs 89 = .ok (.iconst 2, 1) := by decide +kernel
theorem dX0_errs_90 : decode cX0_errs 90 = .ok (.invokevirtual 41, 3) := by decide +kernel
theorem dX0_errs_93 : decode cX0_errs 93 = .ok (.isub, 1) := by decide +kernel
theorem dX0_errs_94 : decode cX0_errs 94 = .ok (.ireturn, 1) := by decide +kernel
theorem dX0_errs_95 : decode cX0_errs 95 = .ok (.iload_n 1, 1) := by decide +kernel
theorem dX0_errs_96 : decode cX0_errs 96 = .ok (.ifCond .ge 7, 3) := by decide +kernel
theorem dX0_errs_99 : decode cX0_errs 99 = .ok (.iconst 0, 1) := by decide +kernel
theorem dX0_errs_100 : decode cX0_errs 100 = .ok (.goto 12, 3) := by decide +kernel
theorem dX0_errs_103 : decode cX0_errs 103 = .ok (.aload_n 0, 1) := by decide +kernel
theorem dX0_errs_104 : decode cX0_errs 104 = .ok (.iload_n 1, 1) := by decide +kernel
theorem dX0_errs_105 : decode cX0_errs 105 = .ok (.invokestatic 25, 3) := by decide +kernel
theorem dX0_errs_108 : decode cX0_errs 108 = .ok (.iload_n 2, 1) := by decide +kernel
theorem dX0_errs_109 : decode cX0_errs 109 = .ok (.invokevirtual 48, 3) := by decide +kernel
theorem dX0_errs_112 : decode cX0_errs 112 = .ok (.ireturn, 1) := by decide +kernel
theorem dX0_tells_0 : decode cX0_tells 0 = .ok (.iload_n 1, 1) := by decide +kernel
theorem dX0_tells_1 : decode cX0_tells 1 = .ok (.lookupswitch 98 #[(0, 35), (4, 62), (5, 80)], 35) := by decide +kernel
theorem dX0_tells_36 : decode cX0_tells 36 = .ok (.aload_n 0, 1) := by decide +kernel
theorem dX0_tells_37 : decode cX0_tells 37 = .ok (.iconst 2, 1) := by decide +kernel
theorem dX0_tells_38 : decode cX0_tells 38 = .ok (.invokevirtual 54, 3) := by decide +kernel
theorem dX0_tells_41 : decode cX0_tells 41 = .ok (.aload_n 0, 1) := by decide +kernel
theorem dX0_tells_42 : decode cX0_tells 42 = .ok (.aload_n 0, 1) := by decide +kernel
theorem dX0_tells_43 : decode cX0_tells 43 = .ok (.getfield 38, 3) := by decide +kernel
theorem dX0_tells_46 : decode cX0_tells 46 = .ok (.iload_n 2, 1) := by decide +kernel
theorem dX0_tells_47 : decode cX0_tells 47 = .ok (.invokevirtual 45, 3) := by decide +kernel
theorem dX0_tells_50 : decode cX0_tells 50 = .ok (.istore_n 3, 1) := by decide +kernel
theorem dX0_tells_51 : decode cX0_tells 51 = .ok (.iload_n 3, 1) := by decide +kernel
theorem dX0_tells_52 : decode cX0_tells 52 = .ok (.aload_n 0, 1) := by decide +kernel
theorem dX0_tells_53 : decode cX0_tells 53 = .ok (.aload_n 0, 1) := by decide +kernel
theorem dX0_tells_54 : decode cX0_tells 54 = .ok (.getfield 38, 3) := by decide +kernel
theorem dX0_tells_57 : decode cX0_tells 57 = .ok (.iconst 1, 1) := by decide +kernel
theorem dX0_tells_58 : decode cX0_tells 58 = .ok (.invokevirtual 48, 3) := by decide +kernel
theorem dX0_tells_61 : decode cX0_tells 61 = .ok (.isub, 1) := by decide +kernel
theorem dX0_tells_62 : decode cX0_tells 62 = .ok (.ireturn, 1) := by decide +kernel
theorem dX0_tells_63 : decode cX0_tells 63 = .ok (.aload_n 0, 1) := by decide +kernel
theorem dX0_tells_64 : decode cX0_tells 64 = .ok (.bipush 50, 2) := by decide +kernel
theorem dX0_tells_66 : decode cX0_tells 66 = .ok (.invokevirtual 54, 3) := by decide +kernel
theorem dX0_tells_69 : decode cX0_tells 69 = .ok (.aload_n 0, 1) := by decide +kernel
theorem dX0_tells_70 : decode cX0_tells 70 = .ok (.iload_n 1, 1) := by decide +kernel
theorem dX0_tells_71 : decode cX0_tells 71 = .ok (.invokestatic 25, 3) := by decide +kernel
theorem dX0_tells_74 : decode cX0_tells 74 = .ok (.iload_n 2, 1) := by decide +kernel
theorem dX0_tells_75 : decode cX0_tells 75 = .ok (.invokevirtual 51, 3) := by decide +kernel
theorem dX0_tells_78 : decode cX0_tells 78 = .ok (.iconst 5, 1) := by decide +kernel
theorem dX0_tells_79 : decode cX0_tells 79 = .ok (.ixor, 1) := by decide +kernel
theorem dX0_tells_80 : decode cX0_tells 80 = .ok (.ireturn, 1) := by decide +kernel
theorem dX0_tells_81 : decode cX0_tells 81 = .ok (.aload_n 0, 1) := by decide +kernel
theorem dX0_tells_82 : decode cX0_tells 82 = .ok (.bipush 61, 2) := by decide +kernel
theorem dX0_tells_84 : decode cX0_tells 84 = .ok (.invokevirtual 54, 3) := by decide +kernel
theorem dX0_tells_87 : decode cX0_tells 87 = .ok (.aload_n 0, 1) := by decide +kernel
theorem dX0_tells_88 : decode cX0_tells 88 = .ok (.iload_n 1, 1) := by decide +kernel
theorem dX0_tells_89 : decode cX0_tells 89 = .ok (.invokestatic 25, 3) := by decide +kernel
theorem dX0_tells_92 : decode cX0_tells 92 = .ok (.iload_n 2, 1) := by decide +kernel
theorem dX0_tells_93 : decode cX0_tells 93 = .ok (.invokevirtual 51, 3) := by decide +kernel
theorem dX0_tells_96 : decode cX0_tells 96 = .ok (.iconst 1, 1) := by decide +kernel
theorem dX0_tells_97 : decode cX0_tells 97 = .ok (.iadd, 1) := by decide +kernel
theorem dX0_tells_98 : decode cX0_tells 98 = .ok (.ireturn, 1) := by decide +kernel
theorem dX0_tells_99 : decode cX0_tells 99 = .ok (.iload_n 1, 1) := by decide +kernel
theorem dX0_tells_100 : decode cX0_tells 100 = .ok (.ifCond .ge 7, 3) := by decide +kernel
theorem dX0_tells_103 : decode cX0_tells 103 = .ok (.iconst 0, 1) := by decide +kernel
theorem dX0_tells_104 : decode cX0_tells 104 = .ok (.goto 12, 3) := by decide +kernel
theorem dX0_tells_107 : decode cX0_tells 107 = .ok (.aload_n 0, 1) := by decide +kernel
theorem dX0_tells_108 : decode cX0_tells 108 = .ok (.iload_n 1, 1) := by decide +kernel
theorem dX0_tells_109 : decode cX0_tells 109 = .ok (.invokestatic 25, 3) := by decide +kernel
theorem dX0_tells_112 : decode cX0_tells 112 = .ok (.iload_n 2, 1) := by decide +kernel
theorem dX0_tells_113 : decode cX0_tells 113 = .ok (.invokevirtual 51, 3) := by decide +kernel
theorem dX0_tells_116 : decode cX0_tells 116 = .ok (.ireturn, 1) := by decide +kernel
theorem dX1_init_0 : decode cX1_init 0 = .ok (.aload_n 0, 1) := by decide +kernel
theorem dX1_init_1 : decode cX1_init 1 = .ok (.invokespecial 3, 3) := by decide +kernel
theorem dX1_init_4 : decode cX1_init 4 = .ok (.aload_n 0, 1) := by decide +kernel
theorem dX1_init_5 : decode cX1_init 5 = .ok (.bipush 40, 2) := by decide +kernel
theorem dX1_init_7 : decode cX1_init 7 = .ok (.newarray .int, 2) := by decide +kernel
theorem dX1_init_9 : decode cX1_init 9 = .ok (.putfield 11, 3) := by decide +kernel
theorem dX1_init_12 : decode cX1_init 12 = .ok (.aload_n 0, 1) := by decide +kernel
theorem dX1_init_13 : decode cX1_init 13 = .ok (.bipush 40, 2) := by decide +kernel
theorem dX1_init_15 : decode cX1_init 15 = .ok (.newarray .int, 2) := by decide +kernel
theorem dX1_init_17 : decode cX1_init 17 = .ok (.putfield 15, 3) := by decide +kernel
theorem dX1_init_20 : decode cX1_init 20 = .ok (.aload_n 0, 1) := by decide +kernel
theorem dX1_init_21 : decode cX1_init 21 = .ok (.bipush 40, 2) := by decide +kernel
theorem dX1_init_23 : decode cX1_init 23 = .ok (.newarray .int, 2) := by decide +kernel
theorem dX1_init_25 : decode cX1_init 25 = .ok (.putfield 18, 3) := by decide +kernel
theorem dX1_init_28 : decode cX1_init 28 = .ok (.aload_n 0, 1) := by decide +kernel
theorem dX1_init_29 : decode cX1_init 29 = .ok (.bipush 40, 2) := by decide +kernel
theorem dX1_init_31 : decode cX1_init 31 = .ok (.newarray .int, 2) := by decide +kernel
theorem dX1_init_33 : decode cX1_init 33 = .ok (.putfield 21, 3) := by decide +kernel
theorem dX1_init_36 : decode cX1_init 36 = .ok (.aload_n 0, 1) := by decide +kernel
theorem dX1_init_37 : decode cX1_init 37 = .ok (.aload_n 1, 1) := by decide +kernel
theorem dX1_init_38 : decode cX1_init 38 = .ok (.putfield 24, 3) := by decide +kernel
theorem dX1_init_41 : decode cX1_init 41 = .ok (.return_, 1) := by decide +kernel
theorem dX1_note_0 : decode cX1_note 0 = .ok (.aload_n 0, 1) := by decide +kernel
theorem dX1_note_1 : decode cX1_note 1 = .ok (.getfield 28, 3) := by decide +kernel
theorem dX1_note_4 : decode cX1_note 4 = .ok (.ifCond .lt 12, 3) := by decide +kernel
theorem dX1_note_7 : decode cX1_note 7 = .ok (.aload_n 0, 1) := by decide +kernel
theorem dX1_note_8 : decode cX1_note 8 = .ok (.getfield 28, 3) := by decide +kernel
theorem dX1_note_11 : decode cX1_note 11 = .ok (.bipush 40, 2) := by decide +kernel
theorem dX1_note_13 : decode cX1_note 13 = .ok (.if_icmp .lt 7, 3) := by decide +kernel
theorem dX1_note_16 : decode cX1_note 16 = .ok (.aload_n 0, 1) := by decide +kernel
theorem dX1_note_17 : decode cX1_note 17 = .ok (.invokevirtual 32, 3) := by decide +kernel
theorem dX1_note_20 : decode cX1_note 20 = .ok (.aload_n 0, 1) := by decide +kernel
theorem dX1_note_21 : decode cX1_note 21 = .ok (.getfield 11, 3) := by decide +kernel
theorem dX1_note_24 : decode cX1_note 24 = .ok (.aload_n 0, 1) := by decide +kernel
theorem dX1_note_25 : decode cX1_note 25 = .ok (.getfield 28, 3) := by decide +kernel
theorem dX1_note_28 : decode cX1_note 28 = .ok (.iload_n 1, 1) := by decide +kernel
theorem dX1_note_29 : decode cX1_note 29 = .ok (.iastore, 1) := by decide +kernel
theorem dX1_note_30 : decode cX1_note 30 = .ok (.aload_n 0, 1) := by decide +kernel
theorem dX1_note_31 : decode cX1_note 31 = .ok (.getfield 15, 3) := by decide +kernel
theorem dX1_note_34 : decode cX1_note 34 = .ok (.aload_n 0, 1) := by decide +kernel
theorem dX1_note_35 : decode cX1_note 35 = .ok (.getfield 28, 3) := by decide +kernel
theorem dX1_note_38 : decode cX1_note 38 = .ok (.iload_n 2, 1) := by decide +kernel
theorem dX1_note_39 : decode cX1_note 39 = .ok (.iastore, 1) := by decide +kernel
theorem dX1_note_40 : decode cX1_note 40 = .ok (.aload_n 0, 1) := by decide +kernel
theorem dX1_note_41 : decode cX1_note 41 = .ok (.getfield 18, 3) := by decide +kernel
theorem dX1_note_44 : decode cX1_note 44 = .ok (.aload_n 0, 1) := by decide +kernel
theorem dX1_note_45 : decode cX1_note 45 = .ok (.getfield 28, 3) := by decide +kernel
theorem dX1_note_48 : decode cX1_note 48 = .ok (.iload_n 3, 1) := by decide +kernel
theorem dX1_note_49 : decode cX1_note 49 = .ok (.iastore, 1) := by decide +kernel
theorem dX1_note_50 : decode cX1_note 50 = .ok (.aload_n 0, 1) := by decide +kernel
theorem dX1_note_51 : decode cX1_note 51 = .ok (.getfield 21, 3) := by decide +kernel
theorem dX1_note_54 : decode cX1_note 54 = .ok (.aload_n 0, 1) := by decide +kernel
theorem dX1_note_55 : decode cX1_note 55 = .ok (.getfield 28, 3) := by decide +kernel
theorem dX1_note_58 : decode cX1_note 58 = .ok (.iload 4, 2) := by decide +kernel
theorem dX1_note_60 : decode cX1_note 60 = .ok (.iastore, 1) := by decide +kernel
theorem dX1_note_61 : decode cX1_note 61 = .ok (.aload_n 0, 1) := by decide +kernel
theorem dX1_note_62 : decode cX1_note 62 = .ok (.dup, 1) := by decide +kernel
theorem dX1_note_63 : decode cX1_note 63 = .ok (.getfield 28, 3) := by decide +kernel
theorem dX1_note_66 : decode cX1_note 66 = .ok (.iconst 1, 1) := by decide +kernel
theorem dX1_note_67 : decode cX1_note 67 = .ok (.iadd, 1) := by decide +kernel
theorem dX1_note_68 : decode cX1_note 68 = .ok (.putfield 28, 3) := by decide +kernel
theorem dX1_note_71 : decode cX1_note 71 = .ok (.aload_n 0, 1) := by decide +kernel
theorem dX1_note_72 : decode cX1_note 72 = .ok (.aload_n 0, 1) := by decide +kernel
theorem dX1_note_73 : decode cX1_note 73 = .ok (.getfield 28, 3) := by decide +kernel
theorem dX1_note_76 : decode cX1_note 76 = .ok (.putfield 35, 3) := by decide +kernel
theorem dX1_note_79 : decode cX1_note 79 = .ok (.return_, 1) := by decide +kernel
theorem dX1_dropFirst_0 : decode cX1_dropFirst 0 = .ok (.aload_n 0, 1) := by decide +kernel
theorem dX1_dropFirst_1 : decode cX1_dropFirst 1 = .ok (.getfield 11, 3) := by decide +kernel
theorem dX1_dropFirst_4 : decode cX1_dropFirst 4 = .ok (.iconst 1, 1) := by decide +kernel
theorem dX1_dropFirst_5 : decode cX1_dropFirst 5 = .ok (.aload_n 0, 1) := by decide +kernel
theorem dX1_dropFirst_6 : decode cX1_dropFirst 6 = .ok (.getfield 11, 3) := by decide +kernel
theorem dX1_dropFirst_9 : decode cX1_dropFirst 9 = .ok (.iconst 0, 1) := by decide +kernel
theorem dX1_dropFirst_10 : decode cX1_dropFirst 10 = .ok (.bipush 39, 2) := by decide +kernel
theorem dX1_dropFirst_12 : decode cX1_dropFirst 12 = .ok (.invokestatic 38, 3) := by decide +kernel
theorem dX1_dropFirst_15 : decode cX1_dropFirst 15 = .ok (.aload_n 0, 1) := by decide +kernel
theorem dX1_dropFirst_16 : decode cX1_dropFirst 16 = .ok (.getfield 15, 3) := by decide +kernel
theorem dX1_dropFirst_19 : decode cX1_dropFirst 19 = .ok (.iconst 1, 1) := by decide +kernel
theorem dX1_dropFirst_20 : decode cX1_dropFirst 20 = .ok (.aload_n 0, 1) := by decide +kernel
theorem dX1_dropFirst_21 : decode cX1_dropFirst 21 = .ok (.getfield 15, 3) := by decide +kernel
theorem dX1_dropFirst_24 : decode cX1_dropFirst 24 = .ok (.iconst 0, 1) := by decide +kernel
theorem dX1_dropFirst_25 : decode cX1_dropFirst 25 = .ok (.bipush 39, 2) := by decide +kernel
theorem dX1_dropFirst_27 : decode cX1_dropFirst 27 = .ok (.invokestatic 38, 3) := by decide +kernel
theorem dX1_dropFirst_30 : decode cX1_dropFirst 30 = .ok (.aload_n 0, 1) := by decide +kernel
theorem dX1_dropFirst_31 : decode cX1_dropFirst 31 = .ok (.getfield 18, 3) := by decide +kernel
theorem dX1_dropFirst_34 : decode cX1_dropFirst 34 = .ok (.iconst 1, 1) := by decide +kernel
theorem dX1_dropFirst_35 : decode cX1_dropFirst 35 = .ok (.aload_n 0, 1) := by decide +kernel
theorem dX1_dropFirst_36 : decode cX1_dropFirst 36 = .ok (.getfield 18, 3) := by decide +kernel
theorem dX1_dropFirst_39 : decode cX1_dropFirst 39 = .ok (.iconst 0, 1) := by decide +kernel
theorem dX1_dropFirst_40 : decode cX1_dropFirst 40 = .ok (.bipush 39, 2) := by decide +kernel
theorem dX1_dropFirst_42 : decode cX1_dropFirst 42 = .ok (.invokestatic 38, 3) := by decide +kernel
theorem dX1_dropFirst_45 : decode cX1_dropFirst 45 = .ok (.aload_n 0, 1) := by decide +kernel
theorem dX1_dropFirst_46 : decode cX1_dropFirst 46 = .ok (.getfield 21, 3) := by decide +kernel
theorem dX1_dropFirst_49 : decode cX1_dropFirst 49 = .ok (.iconst 1, 1) := by decide +kernel
theorem dX1_dropFirst_50 : decode cX1_dropFirst 50 = .ok (.aload_n 0, 1) := by decide +kernel
theorem dX1_dropFirst_51 : decode cX1_dropFirst 51 = .ok (.getfield 21, 3) := by decide +kernel
theorem dX1_dropFirst_54 : decode cX1_dropFirst 54 = .ok (.iconst 0, 1) := by decide +kernel
theorem dX1_dropFirst_55 : decode cX1_dropFirst 55 = .ok (.bipush 39, 2) := by decide +kernel
theorem dX1_dropFirst_57 : decode cX1_dropFirst 57 = .ok (.invokestatic 38, 3) := by decide +kernel
theorem dX1_dropFirst_60 : decode cX1_dropFirst 60 = .ok (.aload_n 0, 1) := by decide +kernel
theorem dX1_dropFirst_61 : decode cX1_dropFirst 61 = .ok (.bipush 39, 2) := by decide +kernel
theorem dX1_dropFirst_63 : decode cX1_dropFirst 63 = .ok (.putfield 28, 3) := by decide +kernel
theorem dX1_dropFirst_66 : decode cX1_dropFirst 66 = .ok (.return_, 1) := by decide +kernel
theorem dX1_undoOne_0 : decode cX1_undoOne 0 = .ok (.aload_n 0, 1) := by decide +kernel
theorem dX1_undoOne_1 : decode cX1_undoOne 1 = .ok (.getfield 28, 3) := by decide +kernel
theorem dX1_undoOne_4 : decode cX1_undoOne 4 = .ok (.ifCond .le 12, 3) := by decide +kernel
theorem dX1_undoOne_7 : decode cX1_undoOne 7 = .ok (.aload_n 0, 1) := by decide +kernel
theorem dX1_undoOne_8 : decode cX1_undoOne 8 = .ok (.getfield 28, 3) := by decide +kernel
theorem dX1_undoOne_11 : decode cX1_undoOne 11 = .ok (.bipush 40, 2) := by decide +kernel
theorem dX1_undoOne_13 : decode cX1_undoOne 13 = .ok (.if_icmp .le 6, 3) := by decide +kernel
theorem dX1_undoOne_16 : decode cX1_undoOne 16 = .ok (.bipush (-5), 2) := by decide +kernel
theorem dX1_undoOne_18 : decode cX1_undoOne 18 = .ok (.ireturn, 1) := by decide +kernel
theorem dX1_undoOne_19 : decode cX1_undoOne 19 = .ok (.aload_n 0, 1) := by decide +kernel
theorem dX1_undoOne_20 : decode cX1_undoOne 20 = .ok (.dup, 1) := by decide +kernel
theorem dX1_undoOne_21 : decode cX1_undoOne 21 = .ok (.getfield 28, 3) := by decide +kernel
theorem dX1_undoOne_24 : decode cX1_undoOne 24 = .ok (.iconst 1, 1) := by decide +kernel
theorem dX1_undoOne_25 : decode cX1_undoOne 25 = .ok (.isub, 1) := by decide +kernel
theorem dX1_undoOne_26 : decode cX1_undoOne 26 = .ok (.putfield 28, 3) := by decide +kernel
theorem dX1_undoOne_29 : decode cX1_undoOne 29 = .ok (.aload_n 0, 1) := by decide +kernel
theorem dX1_undoOne_30 : decode cX1_undoOne 30 = .ok (.getfield 24, 3) := by decide +kernel
theorem dX1_undoOne_33 : decode cX1_undoOne 33 = .ok (.aload_n 0, 1) := by decide +kernel
theorem dX1_undoOne_34 : decode cX1_undoOne 34 = .ok (.getfield 11, 3) := by decide +kernel
theorem dX1_undoOne_37 : decode cX1_undoOne 37 = .ok (.aload_n 0, 1) := by decide +kernel
theorem dX1_undoOne_38 : decode cX1_undoOne 38 = .ok (.getfield 28, 3) := by decide +kernel
theorem dX1_undoOne_41 : decode cX1_undoOne 41 = .ok (.iaload, 1) := by decide +kernel
theorem dX1_undoOne_42 : decode cX1_undoOne 42 = .ok (.aload_n 0, 1) := by decide +kernel
theorem dX1_undoOne_43 : decode cX1_undoOne 43 = .ok (.getfield 15, 3) := by decide +kernel
theorem dX1_undoOne_46 : decode cX1_undoOne 46 = .ok (.aload_n 0, 1) := by decide +kernel
theorem dX1_undoOne_47 : decode cX1_undoOne 47 = .ok (.getfield 28, 3) := by decide +kernel
theorem dX1_undoOne_50 : decode cX1_undoOne 50 = .ok (.iaload, 1) := by decide +kernel
theorem dX1_undoOne_51 : decode cX1_undoOne 51 = .ok (.aload_n 0, 1) := by decide +kernel
theorem dX1_undoOne_52 : decode cX1_undoOne 52 = .ok (.getfield 18, 3) := by decide +kernel
theorem dX1_undoOne_55 : decode cX1_undoOne 55 = .ok (.aload_n 0, 1) := by decide +kernel
theorem dX1_undoOne_56 : decode cX1_undoOne 56 = .ok (.getfield 28, 3) := by decide +kernel
theorem dX1_undoOne_59 : decode cX1_undoOne 59 = .ok (.iaload, 1) := by decide +kernel
theorem dX1_undoOne_60 : decode cX1_undoOne 60 = .ok (.invokevirtual 44, 3) := by decide +kernel
theorem dX1_undoOne_63 : decode cX1_undoOne 63 = .ok (.aload_n 0, 1) := by decide +kernel
theorem dX1_undoOne_64 : decode cX1_undoOne 64 = .ok (.getfield 28, 3) := by decide +kernel
theorem dX1_undoOne_67 : decode cX1_undoOne 67 = .ok (.ireturn, 1) := by decide +kernel
theorem dX1_redoOne_0 : decode cX1_redoOne 0 = .ok (.aload_n 0, 1) := by decide +kernel
theorem dX1_redoOne_1 : decode cX1_redoOne 1 = .ok (.getfield 28, 3) := by decide +kernel
theorem dX1_redoOne_4 : decode cX1_redoOne 4 = .ok (.ifCond .lt 23, 3) := by decide +kernel
theorem dX1_redoOne_7 : decode cX1_redoOne 7 = .ok (.aload_n 0, 1) := by decide +kernel
theorem dX1_redoOne_8 : decode cX1_redoOne 8 = .ok (.getfield 28, 3) := by decide +kernel
theorem dX1_redoOne_11 : decode cX1_redoOne 11 = .ok (.aload_n 0, 1) := by decide +kernel
theorem dX1_redoOne_12 : decode cX1_redoOne 12 = .ok (.getfield 35, 3) := by decide +kernel
theorem dX1_redoOne_15 : decode cX1_redoOne 15 = .ok (.if_icmp .ge 12, 3) := by decide +kernel
theorem dX1_redoOne_18 : decode cX1_redoOne 18 = .ok (.aload_n 0, 1) := by decide +kernel
theorem dX1_redoOne_19 : decode cX1_redoOne 19 = .ok (.getfield 28, 3) := by decide +kernel
theorem dX1_redoOne_22 : decode cX1_redoOne 22 = .ok (.bipush 40, 2) := by decide +kernel
theorem dX1_redoOne_24 : decode cX1_redoOne 24 = .ok (.if_icmp .lt 6, 3) := by decide +kernel
theorem dX1_redoOne_27 : decode cX1_redoOne 27 = .ok (.bipush (-5), 2) := by decide +kernel
theorem dX1_redoOne_29 : decode cX1_redoOne 29 = .ok (.ireturn, 1) := by decide +kernel
theorem dX1_redoOne_30 : decode cX1_redoOne 30 = .ok (.aload_n 0, 1) := by decide +kernel
theorem dX1_redoOne_31 : decode cX1_redoOne 31 = .ok (.getfield 24, 3) := by decide +kernel
theorem dX1_redoOne_34 : decode cX1_redoOne 34 = .ok (.aload_n 0, 1) := by decide +kernel
theorem dX1_redoOne_35 : decode cX1_redoOne 35 = .ok (.getfield 11, 3) := by decide +kernel
theorem dX1_redoOne_38 : decode cX1_redoOne 38 = .ok (.aload_n 0, 1) := by decide +kernel
theorem dX1_redoOne_39 : decode cX1_redoOne 39 = .ok (.getfield 28, 3) := by decide +kernel
theorem dX1_redoOne_42 : decode cX1_redoOne 42 = .ok (.iaload, 1) := by decide +kernel
theorem dX1_redoOne_43 : decode cX1_redoOne 43 = .ok (.aload_n 0, 1) := by decide +kernel
theorem dX1_redoOne_44 : decode cX1_redoOne 44 = .ok (.getfield 15, 3) := by decide +kernel
theorem dX1_redoOne_47 : decode cX1_redoOne 47 = .ok (.aload_n 0, 1) := by decide +kernel
theorem dX1_redoOne_48 : decode cX1_redoOne 48 = .ok (.getfield 28, 3) := by decide +kernel
theorem dX1_redoOne_51 : decode cX1_redoOne 51 = .ok (.iaload, 1) := by decide +kernel
theorem dX1_redoOne_52 : decode cX1_redoOne 52 = .ok (.aload_n 0, 1) := by decide +kernel
theorem dX1_redoOne_53 : decode cX1_redoOne 53 = .ok (.getfield 21, 3) := by decide +kernel
theorem dX1_redoOne_56 : decode cX1_redoOne 56 = .ok (.aload_n 0, 1) := by decide +kernel
theorem dX1_redoOne_57 : decode cX1_redoOne 57 = .ok (.getfield 28, 3) := by decide +kernel
theorem dX1_redoOne_60 : decode cX1_redoOne 60 = .ok (.iaload, 1) := by decide +kernel
theorem dX1_redoOne_61 : decode cX1_redoOne 61 = .ok (.invokevirtual 44, 3) := by decide +kernel
theorem dX1_redoOne_64 : decode cX1_redoOne 64 = .ok (.aload_n 0, 1) := by decide +kernel
theorem dX1_redoOne_65 : decode cX1_redoOne 65 = .ok (.dup, 1) := by decide +kernel
theorem dX1_redoOne_66 : decode cX1_redoOne 66 = .ok (.getfield 28, 3) := by decide +kernel
theorem dX1_redoOne_69 : decode cX1_redoOne 69 = .ok (.iconst 1, 1) := by decide +kernel
theorem dX1_redoOne_70 : decode cX1_redoOne 70 = .ok (.iadd, 1) := by decide +kernel
theorem dX1_redoOne_71 : decode cX1_redoOne 71 = .ok (.putfield 28, 3) := by decide +kernel
theorem dX1_redoOne_74 : decode cX1_redoOne 74 = .ok (.aload_n 0, 1) := by decide +kernel
theorem dX1_redoOne_75 : decode cX1_redoOne 75 = .ok (.getfield 35, 3) := by decide +kernel
theorem dX1_redoOne_78 : decode cX1_redoOne 78 = .ok (.aload_n 0, 1) := by decide +kernel
theorem dX1_redoOne_79 : decode cX1_redoOne 79 = .ok (.getfield 28, 3) := by decide +kernel
theorem dX1_redoOne_82 : decode cX1_redoOne 82 = .ok (.isub, 1) := by decide +kernel
theorem dX1_redoOne_83 : decode cX1_redoOne 83 = .ok (.ireturn, 1) := by decide +kernel
theorem dX2_init_0 : decode cX2_init 0 = .ok (.aload_n 0, 1) := by decide +kernel
theorem dX2_init_1 : decode cX2_init 1 = .ok (.invokespecial 3, 3) := by decide +kernel
theorem dX2_init_4 : decode cX2_init 4 = .ok (.aload_n 0, 1) := by decide +kernel
theorem dX2_init_5 : decode cX2_init 5 = .ok (.iconst 5, 1) := by decide +kernel
theorem dX2_init_6 : decode cX2_init 6 = .ok (.newarray .int, 2) := by decide +kernel
theorem dX2_init_8 : decode cX2_init 8 = .ok (.putfield 11, 3) := by decide +kernel
theorem dX2_init_11 : decode cX2_init 11 = .ok (.aload_n 0, 1) := by decide +kernel
theorem dX2_init_12 : decode cX2_init 12 = .ok (.bipush 6, 2) := by decide +kernel
theorem dX2_init_14 : decode cX2_init 14 = .ok (.newarray .int, 2) := by decide +kernel
theorem dX2_init_16 : decode cX2_init 16 = .ok (.putfield 15, 3) := by decide +kernel
theorem dX2_init_19 : decode cX2_init 19 = .ok (.aload_n 0, 1) := by decide +kernel
theorem dX2_init_20 : decode cX2_init 20 = .ok (.bipush 6, 2) := by decide +kernel
theorem dX2_init_22 : decode cX2_init 22 = .ok (.newarray .int, 2) := by decide +kernel
theorem dX2_init_24 : decode cX2_init 24 = .ok (.putfield 18, 3) := by decide +kernel
theorem dX2_init_27 : decode cX2_init 27 = .ok (.aload_n 0, 1) := by decide +kernel
theorem dX2_init_28 : decode cX2_init 28 = .ok (.iconst 5, 1) := by decide +kernel
theorem dX2_init_29 : decode cX2_init 29 = .ok (.newarray .int, 2) := by decide +kernel
theorem dX2_init_31 : decode cX2_init 31 = .ok (.putfield 21, 3) := by decide +kernel
theorem dX2_init_34 : decode cX2_init 34 = .ok (.aload_n 0, 1) := by decide +kernel
theorem dX2_init_35 : decode cX2_init 35 = .ok (.aload_n 1, 1) := by decide +kernel
theorem dX2_init_36 : decode cX2_init 36 = .ok (.putfield 24, 3) := by decide +kernel
theorem dX2_init_39 : decode cX2_init 39 = .ok (.return_, 1) := by decide +kernel
theorem dX2_refuse_0 : decode cX2_refuse 0 = .ok (.aload_n 0, 1) := by decide +kernel
theorem dX2_refuse_1 : decode cX2_refuse 1 = .ok (.getfield 11, 3) := by decide +kernel
theorem dX2_refuse_4 : decode cX2_refuse 4 = .ok (.iconst 3, 1) := by decide +kernel
theorem dX2_refuse_5 : decode cX2_refuse 5 = .ok (.dup2, 1) := by decide +kernel
theorem dX2_refuse_6 : decode cX2_refuse 6 = .ok (.iaload, 1) := by decide +kernel
theorem dX2_refuse_7 : decode cX2_refuse 7 = .ok (.iconst 1, 1) := by decide +kernel
theorem dX2_refuse_8 : decode cX2_refuse 8 = .ok (.iadd, 1) := by decide +kernel
theorem dX2_refuse_9 : decode cX2_refuse 9 = .ok (.iastore, 1) := by decide +kernel
theorem dX2_refuse_10 : decode cX2_refuse 10 = .ok (.iload_n 1, 1) := by decide +kernel
theorem dX2_refuse_11 : decode cX2_refuse 11 = .ok (.ireturn, 1) := by decide +kernel
theorem dX2_noteWire_0 : decode cX2_noteWire 0 = .ok (.aload_n 0, 1) := by decide +kernel
theorem dX2_noteWire_1 : decode cX2_noteWire 1 = .ok (.getfield 11, 3) := by decide +kernel
theorem dX2_noteWire_4 : decode cX2_noteWire 4 = .ok (.iconst 0, 1) := by decide +kernel
theorem dX2_noteWire_5 : decode cX2_noteWire 5 = .ok (.dup2, 1) := by decide +kernel
theorem dX2_noteWire_6 : decode cX2_noteWire 6 = .ok (.iaload, 1) := by decide +kernel
theorem dX2_noteWire_7 : decode cX2_noteWire 7 = .ok (.iconst 1, 1) := by decide +kernel
theorem dX2_noteWire_8 : decode cX2_noteWire 8 = .ok (.iadd, 1) := by decide +kernel
theorem dX2_noteWire_9 : decode cX2_noteWire 9 = .ok (.iastore, 1) := by decide +kernel
theorem dX2_noteWire_10 : decode cX2_noteWire 10 = .ok (.aload_n 0, 1) := by decide +kernel
theorem dX2_noteWire_11 : decode cX2_noteWire 11 = .ok (.getfield 11, 3) := by decide +kernel
theorem dX2_noteWire_14 : decode cX2_noteWire 14 = .ok (.iconst 1, 1) := by decide +kernel
theorem dX2_noteWire_15 : decode cX2_noteWire 15 = .ok (.dup2, 1) := by decide +kernel
theorem dX2_noteWire_16 : decode cX2_noteWire 16 = .ok (.iaload, 1) := by decide +kernel
theorem dX2_noteWire_17 : decode cX2_noteWire 17 = .ok (.iload_n 1, 1) := by decide +kernel
theorem dX2_noteWire_18 : decode cX2_noteWire 18 = .ok (.iadd, 1) := by decide +kernel
theorem dX2_noteWire_19 : decode cX2_noteWire 19 = .ok (.iastore, 1) := by decide +kernel
theorem dX2_noteWire_20 : decode cX2_noteWire 20 = .ok (.aload_n 0, 1) := by decide +kernel
theorem dX2_noteWire_21 : decode cX2_noteWire 21 = .ok (.getfield 11, 3) := by decide +kernel
theorem dX2_noteWire_24 : decode cX2_noteWire 24 = .ok (.iconst 2, 1) := by decide +kernel
theorem dX2_noteWire_25 : decode cX2_noteWire 25 = .ok (.dup2, 1) := by decide +kernel
theorem dX2_noteWire_26 : decode cX2_noteWire 26 = .ok (.iaload, 1) := by decide +kernel
theorem dX2_noteWire_27 : decode cX2_noteWire 27 = .ok (.iload_n 2, 1) := by decide +kernel
theorem dX2_noteWire_28 : decode cX2_noteWire 28 = .ok (.iadd, 1) := by decide +kernel
theorem dX2_noteWire_29 : decode cX2_noteWire 29 = .ok (.iastore, 1) := by decide +kernel
theorem dX2_noteWire_30 : decode cX2_noteWire 30 = .ok (.aload_n 0, 1) := by decide +kernel
theorem dX2_noteWire_31 : decode cX2_noteWire 31 = .ok (.getfield 11, 3) := by decide +kernel
theorem dX2_noteWire_34 : decode cX2_noteWire 34 = .ok (.iconst 4, 1) := by decide +kernel
theorem dX2_noteWire_35 : decode cX2_noteWire 35 = .ok (.dup2, 1) := by decide +kernel
theorem dX2_noteWire_36 : decode cX2_noteWire 36 = .ok (.iaload, 1) := by decide +kernel
theorem dX2_noteWire_37 : decode cX2_noteWire 37 = .ok (.aload_n 0, 1) := by decide +kernel
theorem dX2_noteWire_38 : decode cX2_noteWire 38 = .ok (.getfield 24, 3) := by decide +kernel
theorem dX2_noteWire_41 : decode cX2_noteWire 41 = .ok (.iconst 0, 1) := by decide +kernel
theorem dX2_noteWire_42 : decode cX2_noteWire 42 = .ok (.bipush 7, 2) := by decide +kernel
theorem dX2_noteWire_44 : decode cX2_noteWire 44 = .ok (.invokevirtual 28, 3) := by decide +kernel
theorem dX2_noteWire_47 : decode cX2_noteWire 47 = .ok (.iadd, 1) := by decide +kernel
theorem dX2_noteWire_48 : decode cX2_noteWire 48 = .ok (.iastore, 1) := by decide +kernel
theorem dX2_noteWire_49 : decode cX2_noteWire 49 = .ok (.return_, 1) := by decide +kernel
theorem dX2_keepImage_0 : decode cX2_keepImage 0 = .ok (.aload_n 0, 1) := by decide +kernel
theorem dX2_keepImage_1 : decode cX2_keepImage 1 = .ok (.iconst 1, 1) := by decide +kernel
theorem dX2_keepImage_2 : decode cX2_keepImage 2 = .ok (.putfield 34, 3) := by decide +kernel
theorem dX2_keepImage_5 : decode cX2_keepImage 5 = .ok (.aload_n 0, 1) := by decide +kernel
theorem dX2_keepImage_6 : decode cX2_keepImage 6 = .ok (.aload_n 0, 1) := by decide +kernel
theorem dX2_keepImage_7 : decode cX2_keepImage 7 = .ok (.getfield 24, 3) := by decide +kernel
theorem dX2_keepImage_10 : decode cX2_keepImage 10 = .ok (.getfield 38, 3) := by decide +kernel
theorem dX2_keepImage_13 : decode cX2_keepImage 13 = .ok (.putfield 42, 3) := by decide +kernel
theorem dX2_keepImage_16 : decode cX2_keepImage 16 = .ok (.aload_n 0, 1) := by decide +kernel
theorem dX2_keepImage_17 : decode cX2_keepImage 17 = .ok (.aload_n 0, 1) := by decide +kernel
theorem dX2_keepImage_18 : decode cX2_keepImage 18 = .ok (.getfield 24, 3) := by decide +kernel
theorem dX2_keepImage_21 : decode cX2_keepImage 21 = .ok (.iconst 0, 1) := by decide +kernel
theorem dX2_keepImage_22 : decode cX2_keepImage 22 = .ok (.bipush 7, 2) := by decide +kernel
theorem dX2_keepImage_24 : decode cX2_keepImage 24 = .ok (.invokevirtual 28, 3) := by decide +kernel
theorem dX2_keepImage_27 : decode cX2_keepImage 27 = .ok (.putfield 43, 3) := by decide +kernel
theorem dX2_keepImage_30 : decode cX2_keepImage 30 = .ok (.iconst 0, 1) := by decide +kernel
theorem dX2_keepImage_31 : decode cX2_keepImage 31 = .ok (.istore_n 1, 1) := by decide +kernel
theorem dX2_keepImage_32 : decode cX2_keepImage 32 = .ok (.iload_n 1, 1) := by decide +kernel
theorem dX2_keepImage_33 : decode cX2_keepImage 33 = .ok (.aload_n 0, 1) := by decide +kernel
theorem dX2_keepImage_34 : decode cX2_keepImage 34 = .ok (.getfield 42, 3) := by decide +kernel
theorem dX2_keepImage_37 : decode cX2_keepImage 37 = .ok (.if_icmp .ge 46, 3) := by decide +kernel
theorem dX2_keepImage_40 : decode cX2_keepImage 40 = .ok (.iload_n 1, 1) := by decide +kernel
theorem dX2_keepImage_41 : decode cX2_keepImage 41 = .ok (.bipush 6, 2) := by decide +kernel
theorem dX2_keepImage_43 : decode cX2_keepImage 43 = .ok (.if_icmp .ge 40, 3) := by decide +kernel
theorem dX2_keepImage_46 : decode cX2_keepImage 46 = .ok (.aload_n 0, 1) := by decide +kernel
theorem dX2_keepImage_47 : decode cX2_keepImage 47 = .ok (.getfield 15, 3) := by decide +kernel
theorem dX2_keepImage_50 : decode cX2_keepImage 50 = .ok (.iload_n 1, 1) := by decide +kernel
theorem dX2_keepImage_51 : decode cX2_keepImage 51 = .ok (.aload_n 0, 1) := by decide +kernel
theorem dX2_keepImage_52 : decode cX2_keepImage 52 = .ok (.getfield 24, 3) := by decide +kernel
theorem dX2_keepImage_55 : decode cX2_keepImage 55 = .ok (.iload_n 1, 1) := by decide +kernel
theorem dX2_keepImage_56 : decode cX2_keepImage 56 = .ok (.iconst 5, 1) := by decide +kernel
theorem dX2_keepImage_57 : decode cX2_keepImage 57 = .ok (.invokevirtual 28, 3) := by decide +kernel
theorem dX2_keepImage_60 : decode cX2_keepImage 60 = .ok (.iastore, 1) := by decide +kernel
theorem dX2_keepImage_61 : decode cX2_keepImage 61 = .ok (.aload_n 0, 1) := by decide +kernel
theorem dX2_keepImage_62 : decode cX2_keepImage 62 = .ok (.getfield 18, 3) := by decide +kernel
theorem dX2_keepImage_65 : decode cX2_keepImage 65 = .ok (.iload_n 1, 1) := by decide +kernel
theorem dX2_keepImage_66 : decode cX2_keepImage 66 = .ok (.aload_n 0, 1) := by decide +kernel
theorem dX2_keepImage_67 : decode cX2_keepImage 67 = .ok (.getfield 24, 3) := by decide +kernel
theorem dX2_keepImage_70 : decode cX2_keepImage 70 = .ok (.iload_n 1, 1) := by decide +kernel
theorem dX2_keepImage_71 : decode cX2_keepImage 71 = .ok (.bipush 6, 2) := by decide +kernel
theorem dX2_keepImage_73 : decode cX2_keepImage 73 = .ok (.invokevirtual 28, 3) := by decide +kernel
theorem dX2_keepImage_76 : decode cX2_keepImage 76 = .ok (.iastore, 1) := by decide +kernel
theorem dX2_keepImage_77 : decode cX2_keepImage 77 = .ok (.iinc 1 1, 3) := by decide +kernel
theorem dX2_keepImage_80 : decode cX2_keepImage 80 = .ok (.goto (-48), 3) := by decide +kernel
theorem dX2_keepImage_83 : decode cX2_keepImage 83 = .ok (.aload_n 0, 1) := by decide +kernel
theorem dX2_keepImage_84 : decode cX2_keepImage 84 = .ok (.getfield 11, 3) := by decide +kernel
theorem dX2_keepImage_87 : decode cX2_keepImage 87 = .ok (.iconst 0, 1) := by decide +kernel
theorem dX2_keepImage_88 : decode cX2_keepImage 88 = .ok (.aload_n 0, 1) := by decide +kernel
theorem dX2_keepImage_89 : decode cX2_keepImage 89 = .ok (.getfield 21, 3) := by decide +kernel
theorem dX2_keepImage_92 : decode cX2_keepImage 92 = .ok (.iconst 0, 1) := by decide +kernel
theorem dX2_keepImage_93 : decode cX2_keepImage 93 = .ok (.aload_n 0, 1) := by decide +kernel
theorem dX2_keepImage_94 : decode cX2_keepImage 94 = .ok (.getfield 11, 3) := by decide +kernel
theorem dX2_keepImage_97 : decode cX2_keepImage 97 = .ok (.arraylength, 1) := by decide +kernel
theorem dX2_keepImage_98 : decode cX2_keepImage 98 = .ok (.invokestatic 46, 3) := by decide +kernel
theorem dX2_keepImage_101 : decode cX2_keepImage 101 = .ok (.aload_n 0, 1) := by decide +kernel
theorem dX2_keepImage_102 : decode cX2_keepImage 102 = .ok (.getfield 11, 3) := by decide +kernel
theorem dX2_keepImage_105 : decode cX2_keepImage 105 = .ok (.iconst 0, 1) := by decide +kernel
theorem dX2_keepImage_106 : decode cX2_keepImage 106 = .ok (.iaload, 1) := by decide +kernel
theorem dX2_keepImage_107 : decode cX2_keepImage 107 = .ok (.ireturn, 1) := by decide +kernel
theorem dX2_layBack_0 : decode cX2_layBack 0 = .ok (.aload_n 0, 1) := by decide +kernel
theorem dX2_layBack_1 : decode cX2_layBack 1 = .ok (.getfield 34, 3) := by decide +kernel
theorem dX2_layBack_4 : decode cX2_layBack 4 = .ok (.ifCond .ne 6, 3) := by decide +kernel
theorem dX2_layBack_7 : decode cX2_layBack 7 = .ok (.bipush (-5), 2) := by decide +kernel
theorem dX2_layBack_9 : decode cX2_layBack 9 = .ok (.ireturn, 1) := by decide +kernel
theorem dX2_layBack_10 : decode cX2_layBack 10 = .ok (.aload_n 0, 1) := by decide +kernel
theorem dX2_layBack_11 : decode cX2_layBack 11 = .ok (.getfield 24, 3) := by decide +kernel
theorem dX2_layBack_14 : decode cX2_layBack 14 = .ok (.iconst 0, 1) := by decide +kernel
theorem dX2_layBack_15 : decode cX2_layBack 15 = .ok (.bipush 7, 2) := by decide +kernel
theorem dX2_layBack_17 : decode cX2_layBack 17 = .ok (.aload_n 0, 1) := by decide +kernel
theorem dX2_layBack_18 : decode cX2_layBack 18 = .ok (.getfield 43, 3) := by decide +kernel
theorem dX2_layBack_21 : decode cX2_layBack 21 = .ok (.invokevirtual 52, 3) := by decide +kernel
theorem dX2_layBack_24 : decode cX2_layBack 24 = .ok (.iconst 0, 1) := by decide +kernel
theorem dX2_layBack_25 : decode cX2_layBack 25 = .ok (.istore_n 1, 1) := by decide +kernel
theorem dX2_layBack_26 : decode cX2_layBack 26 = .ok (.iload_n 1, 1) := by decide +kernel
theorem dX2_layBack_27 : decode cX2_layBack 27 = .ok (.aload_n 0, 1) := by decide +kernel
theorem dX2_layBack_28 : decode cX2_layBack 28 = .ok (.getfield 42, 3) := by decide +kernel
theorem dX2_layBack_31 : decode cX2_layBack 31 = .ok (.if_icmp .ge 46, 3) := by decide +kernel
theorem dX2_layBack_34 : decode cX2_layBack 34 = .ok (.iload_n 1, 1) := by decide +kernel
theorem dX2_layBack_35 : decode cX2_layBack 35 = .ok (.bipush 6, 2) := by decide +kernel
theorem dX2_layBack_37 : decode cX2_layBack 37 = .ok (.if_icmp .ge 40, 3) := by decide +kernel
theorem dX2_layBack_40 : decode cX2_layBack 40 = .ok (.aload_n 0, 1) := by decide +kernel
theorem dX2_layBack_41 : decode cX2_layBack 41 = .ok (.getfield 24, 3) := by decide +kernel
theorem dX2_layBack_44 : decode cX2_layBack 44 = .ok (.iload_n 1, 1) := by decide +kernel
theorem dX2_layBack_45 : decode cX2_layBack 45 = .ok (.iconst 5, 1) := by decide +kernel
theorem dX2_layBack_46 : decode cX2_layBack 46 = .ok (.aload_n 0, 1) := by decide +kernel
theorem dX2_layBack_47 : decode cX2_layBack 47 = .ok (.getfield 15, 3) := by decide +kernel
theorem dX2_layBack_50 : decode cX2_layBack 50 = .ok (.iload_n 1, 1) := by decide +kernel
theorem dX2_layBack_51 : decode cX2_layBack 51 = .ok (.iaload, 1) := by decide +kernel
theorem dX2_layBack_52 : decode cX2_layBack 52 = .ok (.invokevirtual 52, 3) := by decide +kernel
theorem dX2_layBack_55 : decode cX2_layBack 55 = .ok (.aload_n 0, 1) := by decide +kernel
theorem dX2_layBack_56 : decode cX2_layBack 56 = .ok (.getfield 24, 3) := by decide +kernel
theorem dX2_layBack_59 : decode cX2_layBack 59 = .ok (.iload_n 1, 1) := by decide +kernel
theorem dX2_layBack_60 : decode cX2_layBack 60 = .ok (.bipush 6, 2) := by decide +kernel
theorem dX2_layBack_62 : decode cX2_layBack 62 = .ok (.aload_n 0, 1) := by decide +kernel
theorem dX2_layBack_63 : decode cX2_layBack 63 = .ok (.getfield 18, 3) := by decide +kernel
theorem dX2_layBack_66 : decode cX2_layBack 66 = .ok (.iload_n 1, 1) := by decide +kernel
theorem dX2_layBack_67 : decode cX2_layBack 67 = .ok (.iaload, 1) := by decide +kernel
theorem dX2_layBack_68 : decode cX2_layBack 68 = .ok (.invokevirtual 52, 3) := by decide +kernel
theorem dX2_layBack_71 : decode cX2_layBack 71 = .ok (.iinc 1 1, 3) := by decide +kernel
theorem dX2_layBack_74 : decode cX2_layBack 74 = .ok (.goto (-48), 3) := by decide +kernel
theorem dX2_layBack_77 : decode cX2_layBack 77 = .ok (.aload_n 0, 1) := by decide +kernel
theorem dX2_layBack_78 : decode cX2_layBack 78 = .ok (.getfield 21, 3) := by decide +kernel
theorem dX2_layBack_81 : decode cX2_layBack 81 = .ok (.iconst 0, 1) := by decide +kernel
theorem dX2_layBack_82 : decode cX2_layBack 82 = .ok (.aload_n 0, 1) := by decide +kernel
theorem dX2_layBack_83 : decode cX2_layBack 83 = .ok (.getfield 11, 3) := by decide +kernel
theorem dX2_layBack_86 : decode cX2_layBack 86 = .ok (.iconst 0, 1) := by decide +kernel
theorem dX2_layBack_87 : decode cX2_layBack 87 = .ok (.aload_n 0, 1) := by decide +kernel
theorem dX2_layBack_88 : decode cX2_layBack 88 = .ok (.getfield 11, 3) := by decide +kernel
theorem dX2_layBack_91 : decode cX2_layBack 91 = .ok (.arraylength, 1) := by decide +kernel
theorem dX2_layBack_92 : decode cX2_layBack 92 = .ok (.invokestatic 46, 3) := by decide +kernel
theorem dX2_layBack_95 : decode cX2_layBack 95 = .ok (.aload_n 0, 1) := by decide +kernel
theorem dX2_layBack_96 : decode cX2_layBack 96 = .ok (.getfield 11, 3) := by decide +kernel
theorem dX2_layBack_99 : decode cX2_layBack 99 = .ok (.iconst 0, 1) := by decide +kernel
theorem dX2_layBack_100 : decode cX2_layBack 100 = .ok (.iaload, 1) := by decide +kernel
theorem dX2_layBack_101 : decode cX2_layBack 101 = .ok (.ireturn, 1) := by decide +kernel
theorem dX3_init_0 : decode cX3_init 0 = .ok (.aload_n 0, 1) := by decide +kernel
theorem dX3_init_1 : decode cX3_init 1 = .ok (.invokespecial 3, 3) := by decide +kernel
theorem dX3_init_4 : decode cX3_init 4 = .ok (.aload_n 0, 1) := by decide +kernel
theorem dX3_init_5 : decode cX3_init 5 = .ok (.iconst 4, 1) := by decide +kernel
theorem dX3_init_6 : decode cX3_init 6 = .ok (.newarray .long, 2) := by decide +kernel
theorem dX3_init_8 : decode cX3_init 8 = .ok (.putfield 9, 3) := by decide +kernel
theorem dX3_init_11 : decode cX3_init 11 = .ok (.aload_n 0, 1) := by decide +kernel
theorem dX3_init_12 : decode cX3_init 12 = .ok (.iconst 4, 1) := by decide +kernel
theorem dX3_init_13 : decode cX3_init 13 = .ok (.newarray .long, 2) := by decide +kernel
theorem dX3_init_15 : decode cX3_init 15 = .ok (.putfield 15, 3) := by decide +kernel
theorem dX3_init_18 : decode cX3_init 18 = .ok (.aload_n 0, 1) := by decide +kernel
theorem dX3_init_19 : decode cX3_init 19 = .ok (.iconst 4, 1) := by decide +kernel
theorem dX3_init_20 : decode cX3_init 20 = .ok (.newarray .int, 2) := by decide +kernel
theorem dX3_init_22 : decode cX3_init 22 = .ok (.putfield 18, 3) := by decide +kernel
theorem dX3_init_25 : decode cX3_init 25 = .ok (.aload_n 0, 1) := by decide +kernel
theorem dX3_init_26 : decode cX3_init 26 = .ok (.iconst 4, 1) := by decide +kernel
theorem dX3_init_27 : decode cX3_init 27 = .ok (.newarray .int, 2) := by decide +kernel
theorem dX3_init_29 : decode cX3_init 29 = .ok (.putfield 22, 3) := by decide +kernel
theorem dX3_init_32 : decode cX3_init 32 = .ok (.aload_n 0, 1) := by decide +kernel
theorem dX3_init_33 : decode cX3_init 33 = .ok (.aload_n 1, 1) := by decide +kernel
theorem dX3_init_34 : decode cX3_init 34 = .ok (.putfield 25, 3) := by decide +kernel
theorem dX3_init_37 : decode cX3_init 37 = .ok (.aload_n 0, 1) := by decide +kernel
theorem dX3_init_38 : decode cX3_init 38 = .ok (.aload_n 2, 1) := by decide +kernel
theorem dX3_init_39 : decode cX3_init 39 = .ok (.putfield 29, 3) := by decide +kernel
theorem dX3_init_42 : decode cX3_init 42 = .ok (.return_, 1) := by decide +kernel
theorem dX3_size_0 : decode cX3_size 0 = .ok (.bipush 6, 2) := by decide +kernel
theorem dX3_size_2 : decode cX3_size 2 = .ok (.aload_n 0, 1) := by decide +kernel
theorem dX3_size_3 : decode cX3_size 3 = .ok (.getfield 29, 3) := by decide +kernel
theorem dX3_size_6 : decode cX3_size 6 = .ok (.getfield 33, 3) := by decide +kernel
theorem dX3_size_9 : decode cX3_size 9 = .ok (.invokestatic 39, 3) := by decide +kernel
theorem dX3_size_12 : decode cX3_size 12 = .ok (.ireturn, 1) := by decide +kernel
theorem dX3_oddsOf_0 : decode cX3_oddsOf 0 = .ok (.aload_n 0, 1) := by decide +kernel
theorem dX3_oddsOf_1 : decode cX3_oddsOf 1 = .ok (.getfield 25, 3) := by decide +kernel
theorem dX3_oddsOf_4 : decode cX3_oddsOf 4 = .ok (.iconst 0, 1) := by decide +kernel
theorem dX3_oddsOf_5 : decode cX3_oddsOf 5 = .ok (.bipush 8, 2) := by decide +kernel
theorem dX3_oddsOf_7 : decode cX3_oddsOf 7 = .ok (.invokevirtual 45, 3) := by decide +kernel
theorem dX3_oddsOf_10 : decode cX3_oddsOf 10 = .ok (.istore_n 3, 1) := by decide +kernel
theorem dX3_oddsOf_11 : decode cX3_oddsOf 11 = .ok (.iload_n 1, 1) := by decide +kernel
theorem dX3_oddsOf_12 : decode cX3_oddsOf 12 = .ok (.iload_n 2, 1) := by decide +kernel
theorem dX3_oddsOf_13 : decode cX3_oddsOf 13 = .ok (.if_icmp .ne 10, 3) := by decide +kernel
theorem dX3_oddsOf_16 : decode cX3_oddsOf 16 = .ok (.bipush 12, 2) := by decide +kernel
theorem dX3_oddsOf_18 : decode cX3_oddsOf 18 = .ok (.iload_n 3, 1) := by decide +kernel
theorem dX3_oddsOf_19 : decode cX3_oddsOf 19 = .ok (.isub, 1) := by decide +kernel
theorem dX3_oddsOf_20 : decode cX3_oddsOf 20 = .ok (.goto 4, 3) := by decide +kernel
theorem dX3_oddsOf_23 : decode cX3_oddsOf 23 = .ok (.iconst 0, 1) := by decide +kernel
theorem dX3_oddsOf_24 : decode cX3_oddsOf 24 = .ok (.aload_n 0, 1) := by decide +kernel
theorem dX3_oddsOf_25 : decode cX3_oddsOf 25 = .ok (.getfield 25, 3) := by decide +kernel
theorem dX3_oddsOf_28 : decode cX3_oddsOf 28 = .ok (.iload_n 1, 1) := by decide +kernel
theorem dX3_oddsOf_29 : decode cX3_oddsOf 29 = .ok (.iconst 4, 1) := by decide +kernel
theorem dX3_oddsOf_30 : decode cX3_oddsOf 30 = .ok (.invokevirtual 45, 3) := by decide +kernel
theorem dX3_oddsOf_33 : decode cX3_oddsOf 33 = .ok (.iload_n 2, 1) := by decide +kernel
theorem dX3_oddsOf_34 : decode cX3_oddsOf 34 = .ok (.if_icmp .ne 7, 3) := by decide +kernel
theorem dX3_oddsOf_37 : decode cX3_oddsOf 37 = .ok (.iload_n 3, 1) := by decide +kernel
theorem dX3_oddsOf_38 : decode cX3_oddsOf 38 = .ok (.goto 4, 3) := by decide +kernel
theorem dX3_oddsOf_41 : decode cX3_oddsOf 41 = .ok (.iconst 0, 1) := by decide +kernel
theorem dX3_oddsOf_42 : decode cX3_oddsOf 42 = .ok (.iadd, 1) := by decide +kernel
theorem dX3_oddsOf_43 : decode cX3_oddsOf 43 = .ok (.ireturn, 1) := by decide +kernel
theorem dX3_begin_0 : decode cX3_begin 0 = .ok (.aload_n 0, 1) := by decide +kernel
theorem dX3_begin_1 : decode cX3_begin 1 = .ok (.getfield 9, 3) := by decide +kernel
theorem dX3_begin_4 : decode cX3_begin 4 = .ok (.lconst 0, 1) := by decide +kernel
theorem dX3_begin_5 : decode cX3_begin 5 = .ok (.invokestatic 50, 3) := by decide +kernel
theorem dX3_begin_8 : decode cX3_begin 8 = .ok (.aload_n 0, 1) := by decide +kernel
theorem dX3_begin_9 : decode cX3_begin 9 = .ok (.getfield 9, 3) := by decide +kernel
theorem dX3_begin_12 : decode cX3_begin 12 = .ok (.iconst 3, 1) := by decide +kernel
theorem dX3_begin_13 : decode cX3_begin 13 = .ok (.lconst 1, 1) := by decide +kernel
theorem dX3_begin_14 : decode cX3_begin 14 = .ok (.lastore, 1) := by decide +kernel
theorem dX3_begin_15 : decode cX3_begin 15 = .ok (.aload_n 0, 1) := by decide +kernel
theorem dX3_begin_16 : decode cX3_begin 16 = .ok (.getfield 18, 3) := by decide +kernel
theorem dX3_begin_19 : decode cX3_begin 19 = .ok (.iconst 3, 1) := by decide +kernel
theorem dX3_begin_20 : decode cX3_begin 20 = .ok (.iconst 0, 1) := by decide +kernel
theorem dX3_begin_21 : decode cX3_begin 21 = .ok (.iastore, 1) := by decide +kernel
theorem dX3_begin_22 : decode cX3_begin 22 = .ok (.return_, 1) := by decide +kernel
theorem dX3_swap_0 : decode cX3_swap 0 = .ok (.aload_n 0, 1) := by decide +kernel
theorem dX3_swap_1 : decode cX3_swap 1 = .ok (.getfield 9, 3) := by decide +kernel
theorem dX3_swap_4 : decode cX3_swap 4 = .ok (.astore_n 1, 1) := by decide +kernel
theorem dX3_swap_5 : decode cX3_swap 5 = .ok (.aload_n 0, 1) := by decide +kernel
theorem dX3_swap_6 : decode cX3_swap 6 = .ok (.aload_n 0, 1) := by decide +kernel
theorem dX3_swap_7 : decode cX3_swap 7 = .ok (.getfield 15, 3) := by decide +kernel
theorem dX3_swap_10 : decode cX3_swap 10 = .ok (.putfield 9, 3) := by decide +kernel
theorem dX3_swap_13 : decode cX3_swap 13 = .ok (.aload_n 0, 1) := by decide +kernel
theorem dX3_swap_14 : decode cX3_swap 14 = .ok (.aload_n 1, 1) := by decide +kernel
theorem dX3_swap_15 : decode cX3_swap 15 = .ok (.putfield 15, 3) := by decide +kernel
theorem dX3_swap_18 : decode cX3_swap 18 = .ok (.aload_n 0, 1) := by decide +kernel
theorem dX3_swap_19 : decode cX3_swap 19 = .ok (.getfield 18, 3) := by decide +kernel
theorem dX3_swap_22 : decode cX3_swap 22 = .ok (.astore_n 2, 1) := by decide +kernel
theorem dX3_swap_23 : decode cX3_swap 23 = .ok (.aload_n 0, 1) := by decide +kernel
theorem dX3_swap_24 : decode cX3_swap 24 = .ok (.aload_n 0, 1) := by decide +kernel
theorem dX3_swap_25 : decode cX3_swap 25 = .ok (.getfield 22, 3) := by decide +kernel
theorem dX3_swap_28 : decode cX3_swap 28 = .ok (.putfield 18, 3) := by decide +kernel
theorem dX3_swap_31 : decode cX3_swap 31 = .ok (.aload_n 0, 1) := by decide +kernel
theorem dX3_swap_32 : decode cX3_swap 32 = .ok (.aload_n 2, 1) := by decide +kernel
theorem dX3_swap_33 : decode cX3_swap 33 = .ok (.putfield 22, 3) := by decide +kernel
theorem dX3_swap_36 : decode cX3_swap 36 = .ok (.return_, 1) := by decide +kernel
theorem dX3_sum_0 : decode cX3_sum 0 = .ok (.aload_n 0, 1) := by decide +kernel
theorem dX3_sum_1 : decode cX3_sum 1 = .ok (.invokevirtual 56, 3) := by decide +kernel
theorem dX3_sum_4 : decode cX3_sum 4 = .ok (.iconst 0, 1) := by decide +kernel
theorem dX3_sum_5 : decode cX3_sum 5 = .ok (.istore_n 3, 1) := by decide +kernel
theorem dX3_sum_6 : decode cX3_sum 6 = .ok (.iload_n 3, 1) := by decide +kernel
theorem dX3_sum_7 : decode cX3_sum 7 = .ok (.aload_n 0, 1) := by decide +kernel
theorem dX3_sum_8 : decode cX3_sum 8 = .ok (.invokevirtual 59, 3) := by decide +kernel
theorem dX3_sum_11 : decode cX3_sum 11 = .ok (.if_icmp .ge 94, 3) := by decide +kernel
theorem dX3_sum_14 : decode cX3_sum 14 = .ok (.aload_n 0, 1) := by decide +kernel
theorem dX3_sum_15 : decode cX3_sum 15 = .ok (.getfield 15, 3) := by decide +kernel
theorem dX3_sum_18 : decode cX3_sum 18 = .ok (.lconst 0, 1) := by decide +kernel
theorem dX3_sum_19 : decode cX3_sum 19 = .ok (.invokestatic 50, 3) := by decide +kernel
theorem dX3_sum_22 : decode cX3_sum 22 = .ok (.iconst 0, 1) := by decide +kernel
theorem dX3_sum_23 : decode cX3_sum 23 = .ok (.istore 4, 2) := by decide +kernel
theorem dX3_sum_25 : decode cX3_sum 25 = .ok (.iload 4, 2) := by decide +kernel
theorem dX3_sum_27 : decode cX3_sum 27 = .ok (.aload_n 0, 1) := by decide +kernel
theorem dX3_sum_28 : decode cX3_sum 28 = .ok (.getfield 25, 3) := by decide +kernel
theorem dX3_sum_31 : decode cX3_sum 31 = .ok (.getfield 62, 3) := by decide +kernel
theorem dX3_sum_34 : decode cX3_sum 34 = .ok (.if_icmp .ge 61, 3) := by decide +kernel
theorem dX3_sum_37 : decode cX3_sum 37 = .ok (.aload_n 0, 1) := by decide +kernel
theorem dX3_sum_38 : decode cX3_sum 38 = .ok (.iload 4, 2) := by decide +kernel
theorem dX3_sum_40 : decode cX3_sum 40 = .ok (.aload_n 0, 1) := by decide +kernel
theorem dX3_sum_41 : decode cX3_sum 41 = .ok (.getfield 29, 3) := by decide +kernel
theorem dX3_sum_44 : decode cX3_sum 44 = .ok (.iload_n 3, 1) := by decide +kernel
theorem dX3_sum_45 : decode cX3_sum 45 = .ok (.invokevirtual 65, 3) := by decide +kernel
theorem dX3_sum_48 : decode cX3_sum 48 = .ok (.invokevirtual 69, 3) := by decide +kernel
theorem dX3_sum_51 : decode cX3_sum 51 = .ok (.istore 5, 2) := by decide +kernel
theorem dX3_sum_53 : decode cX3_sum 53 = .ok (.aload_n 0, 1) := by decide +kernel
theorem dX3_sum_54 : decode cX3_sum 54 = .ok (.getfield 25, 3) := by decide +kernel
theorem dX3_sum_57 : decode cX3_sum 57 = .ok (.iload 4, 2) := by decide +kernel
theorem dX3_sum_59 : decode cX3_sum 59 = .ok (.iconst 1, 1) := by decide +kernel
theorem dX3_sum_60 : decode cX3_sum 60 = .ok (.invokevirtual 45, 3) := by decide +kernel
theorem dX3_sum_63 : decode cX3_sum 63 = .ok (.iload_n 1, 1) := by decide +kernel
theorem dX3_sum_64 : decode cX3_sum 64 = .ok (.iand, 1) := by decide +kernel
theorem dX3_sum_65 : decode cX3_sum 65 = .ok (.ifCond .ne 24, 3) := by decide +kernel
theorem dX3_sum_68 : decode cX3_sum 68 = .ok (.iload 5, 2) := by decide +kernel
theorem dX3_sum_70 : decode cX3_sum 70 = .ok (.ifCond .le 19, 3) := by decide +kernel
theorem dX3_sum_73 : decode cX3_sum 73 = .ok (.aload_n 0, 1) := by decide +kernel
theorem dX3_sum_74 : decode cX3_sum 74 = .ok (.iload 4, 2) := by decide +kernel
theorem dX3_sum_76 : decode cX3_sum 76 = .ok (.iload_n 2, 1) := by decide +kernel
theorem dX3_sum_77 : decode cX3_sum 77 = .ok (.ifCond .eq 7, 3) := by decide +kernel
theorem dX3_sum_80 : decode cX3_sum 80 = .ok (.iconst 1, 1) := by decide +kernel
theorem dX3_sum_81 : decode cX3_sum 81 = .ok (.goto 5, 3) := by decide +kernel
theorem dX3_sum_84 : decode cX3_sum 84 = .ok (.iload 5, 2) := by decide +kernel
theorem dX3_sum_86 : decode cX3_sum 86 = .ok (.invokevirtual 72, 3) := by decide +kernel
theorem dX3_sum_89 : decode cX3_sum 89 = .ok (.iinc 4 1, 3) := by decide +kernel
theorem dX3_sum_92 : decode cX3_sum 92 = .ok (.goto (-67), 3) := by decide +kernel
theorem dX3_sum_95 : decode cX3_sum 95 = .ok (.aload_n 0, 1) := by decide +kernel
theorem dX3_sum_96 : decode cX3_sum 96 = .ok (.invokevirtual 76, 3) := by decide +kernel
theorem dX3_sum_99 : decode cX3_sum 99 = .ok (.iinc 3 1, 3) := by decide +kernel
theorem dX3_sum_102 : decode cX3_sum 102 = .ok (.goto (-96), 3) := by decide +kernel
theorem dX3_sum_105 : decode cX3_sum 105 = .ok (.aload_n 0, 1) := by decide +kernel
theorem dX3_sum_106 : decode cX3_sum 106 = .ok (.getfield 9, 3) := by decide +kernel
theorem dX3_sum_109 : decode cX3_sum 109 = .ok (.iconst 1, 1) := by decide +kernel
theorem dX3_sum_110 : decode cX3_sum 110 = .ok (.laload, 1) := by decide +kernel
theorem dX3_sum_111 : decode cX3_sum 111 = .ok (.aload_n 0, 1) := by decide +kernel
theorem dX3_sum_112 : decode cX3_sum 112 = .ok (.getfield 9, 3) := by decide +kernel
theorem dX3_sum_115 : decode cX3_sum 115 = .ok (.iconst 2, 1) := by decide +kernel
theorem dX3_sum_116 : decode cX3_sum 116 = .ok (.laload, 1) := by decide +kernel
theorem dX3_sum_117 : decode cX3_sum 117 = .ok (.ladd, 1) := by decide +kernel
theorem dX3_sum_118 : decode cX3_sum 118 = .ok (.lreturn, 1) := by decide +kernel
theorem dX3_addWord_0 : decode cX3_addWord 0 = .ok (.aload_n 0, 1) := by decide +kernel
theorem dX3_addWord_1 : decode cX3_addWord 1 = .ok (.getfield 25, 3) := by decide +kernel
theorem dX3_addWord_4 : decode cX3_addWord 4 = .ok (.iload_n 1, 1) := by decide +kernel
theorem dX3_addWord_5 : decode cX3_addWord 5 = .ok (.iconst 2, 1) := by decide +kernel
theorem dX3_addWord_6 : decode cX3_addWord 6 = .ok (.invokevirtual 45, 3) := by decide +kernel
theorem dX3_addWord_9 : decode cX3_addWord 9 = .ok (.istore_n 3, 1) := by decide +kernel
theorem dX3_addWord_10 : decode cX3_addWord 10 = .ok (.iconst 0, 1) := by decide +kernel
theorem dX3_addWord_11 : decode cX3_addWord 11 = .ok (.istore 4, 2) := by decide +kernel
theorem dX3_addWord_13 : decode cX3_addWord 13 = .ok (.iload 4, 2) := by decide +kernel
theorem dX3_addWord_15 : decode cX3_addWord 15 = .ok (.iconst 3, 1) := by decide +kernel
theorem dX3_addWord_16 : decode cX3_addWord 16 = .ok (.if_icmp .gt 37, 3) := by decide +kernel
theorem dX3_addWord_19 : decode cX3_addWord 19 = .ok (.iload 4, 2) := by decide +kernel
theorem dX3_addWord_21 : decode cX3_addWord 21 = .ok (.iload_n 3, 1) := by decide +kernel
theorem dX3_addWord_22 : decode cX3_addWord 22 = .ok (.invokestatic 79, 3) := by decide +kernel
theorem dX3_addWord_25 : decode cX3_addWord 25 = .ok (.ifCond .eq 22, 3) := by decide +kernel
theorem dX3_addWord_28 : decode cX3_addWord 28 = .ok (.aload_n 0, 1) := by decide +kernel
theorem dX3_addWord_29 : decode cX3_addWord 29 = .ok (.getfield 15, 3) := by decide +kernel
theorem dX3_addWord_32 : decode cX3_addWord 32 = .ok (.iload_n 3, 1) := by decide +kernel
theorem dX3_addWord_33 : decode cX3_addWord 33 = .ok (.dup2, 1) := by decide +kernel
theorem dX3_addWord_34 : decode cX3_addWord 34 = .ok (.laload, 1) := by decide +kernel
theorem dX3_addWord_35 : decode cX3_addWord 35 = .ok (.aload_n 0, 1) := by decide +kernel
theorem dX3_addWord_36 : decode cX3_addWord 36 = .ok (.getfield 9, 3) := by decide +kernel
theorem dX3_addWord_39 : decode cX3_addWord 39 = .ok (.iload 4, 2) := by decide +kernel
theorem dX3_addWord_41 : decode cX3_addWord 41 = .ok (.laload, 1) := by decide +kernel
theorem dX3_addWord_42 : decode cX3_addWord 42 = .ok (.iload_n 2, 1) := by decide +kernel
theorem dX3_addWord_43 : decode cX3_addWord 43 = .ok (.i2l, 1) := by decide +kernel
theorem dX3_addWord_44 : decode cX3_addWord 44 = .ok (.lmul, 1) := by decide +kernel
theorem dX3_addWord_45 : decode cX3_addWord 45 = .ok (.ladd, 1) := by decide +kernel
theorem dX3_addWord_46 : decode cX3_addWord 46 = .ok (.lastore, 1) := by decide +kernel
theorem dX3_addWord_47 : decode cX3_addWord 47 = .ok (.iinc 4 1, 3) := by decide +kernel
theorem dX3_addWord_50 : decode cX3_addWord 50 = .ok (.goto (-37), 3) := by decide +kernel
theorem dX3_addWord_53 : decode cX3_addWord 53 = .ok (.return_, 1) := by decide +kernel
theorem dX3_likeliest_0 : decode cX3_likeliest 0 = .ok (.aload_n 0, 1) := by decide +kernel
theorem dX3_likeliest_1 : decode cX3_likeliest 1 = .ok (.invokevirtual 56, 3) := by decide +kernel
theorem dX3_likeliest_4 : decode cX3_likeliest 4 = .ok (.iconst 0, 1) := by decide +kernel
theorem dX3_likeliest_5 : decode cX3_likeliest 5 = .ok (.istore_n 2, 1) := by decide +kernel
theorem dX3_likeliest_6 : decode cX3_likeliest 6 = .ok (.iload_n 2, 1) := by decide +kernel
theorem dX3_likeliest_7 : decode cX3_likeliest 7 = .ok (.aload_n 0, 1) := by decide +kernel
theorem dX3_likeliest_8 : decode cX3_likeliest 8 = .ok (.invokevirtual 59, 3) := by decide +kernel
theorem dX3_likeliest_11 : decode cX3_likeliest 11 = .ok (.if_icmp .ge 58, 3) := by decide +kernel
theorem dX3_likeliest_14 : decode cX3_likeliest 14 = .ok (.aload_n 0, 1) := by decide +kernel
theorem dX3_likeliest_15 : decode cX3_likeliest 15 = .ok (.getfield 15, 3) := by decide +kernel
theorem dX3_likeliest_18 : decode cX3_likeliest 18 = .ok (.lconst 0, 1) := by decide +kernel
theorem dX3_likeliest_19 : decode cX3_likeliest 19 = .ok (.invokestatic 50, 3) := by decide +kernel
theorem dX3_likeliest_22 : decode cX3_likeliest 22 = .ok (.iconst 0, 1) := by decide +kernel
theorem dX3_likeliest_23 : decode cX3_likeliest 23 = .ok (.istore_n 3, 1) := by decide +kernel
theorem dX3_likeliest_24 : decode cX3_likeliest 24 = .ok (.iload_n 3, 1) := by decide +kernel
theorem dX3_likeliest_25 : decode cX3_likeliest 25 = .ok (.aload_n 0, 1) := by decide +kernel
theorem dX3_likeliest_26 : decode cX3_likeliest 26 = .ok (.getfield 25, 3) := by decide +kernel
theorem dX3_likeliest_29 : decode cX3_likeliest 29 = .ok (.getfield 62, 3) := by decide +kernel
theorem dX3_likeliest_32 : decode cX3_likeliest 32 = .ok (.if_icmp .ge 27, 3) := by decide +kernel
theorem dX3_likeliest_35 : decode cX3_likeliest 35 = .ok (.aload_n 0, 1) := by decide +kernel
theorem dX3_likeliest_36 : decode cX3_likeliest 36 = .ok (.iload_n 3, 1) := by decide +kernel
theorem dX3_likeliest_37 : decode cX3_likeliest 37 = .ok (.aload_n 0, 1) := by decide +kernel
theorem dX3_likeliest_38 : decode cX3_likeliest 38 = .ok (.iload_n 3, 1) := by decide +kernel
theorem dX3_likeliest_39 : decode cX3_likeliest 39 = .ok (.aload_n 0, 1) := by decide +kernel
theorem dX3_likeliest_40 : decode cX3_likeliest 40 = .ok (.getfield 29, 3) := by decide +kernel
theorem dX3_likeliest_43 : decode cX3_likeliest 43 = .ok (.iload_n 2, 1) := by decide +kernel
theorem dX3_likeliest_44 : decode cX3_likeliest 44 = .ok (.invokevirtual 65, 3) := by decide +kernel
theorem dX3_likeliest_47 : decode cX3_likeliest 47 = .ok (.invokevirtual 69, 3) := by decide +kernel
theorem dX3_likeliest_50 : decode cX3_likeliest 50 = .ok (.invokevirtual 83, 3) := by decide +kernel
theorem dX3_likeliest_53 : decode cX3_likeliest 53 = .ok (.iinc 3 1, 3) := by decide +kernel
theorem dX3_likeliest_56 : decode cX3_likeliest 56 = .ok (.goto (-32), 3) := by decide +kernel
theorem dX3_likeliest_59 : decode cX3_likeliest 59 = .ok (.aload_n 0, 1) := by decide +kernel
theorem dX3_likeliest_60 : decode cX3_likeliest 60 = .ok (.invokevirtual 76, 3) := by decide +kernel
theorem dX3_likeliest_63 : decode cX3_likeliest 63 = .ok (.iinc 2 1, 3) := by decide +kernel
theorem dX3_likeliest_66 : decode cX3_likeliest 66 = .ok (.goto (-60), 3) := by decide +kernel
theorem dX3_likeliest_69 : decode cX3_likeliest 69 = .ok (.aload_n 0, 1) := by decide +kernel
theorem dX3_likeliest_70 : decode cX3_likeliest 70 = .ok (.getfield 9, 3) := by decide +kernel
theorem dX3_likeliest_73 : decode cX3_likeliest 73 = .ok (.iconst 2, 1) := by decide +kernel
theorem dX3_likeliest_74 : decode cX3_likeliest 74 = .ok (.laload, 1) := by decide +kernel
theorem dX3_likeliest_75 : decode cX3_likeliest 75 = .ok (.aload_n 0, 1) := by decide +kernel
theorem dX3_likeliest_76 : decode cX3_likeliest 76 = .ok (.getfield 18, 3) := by decide +kernel
theorem dX3_likeliest_79 : decode cX3_likeliest 79 = .ok (.iconst 2, 1) := by decide +kernel
theorem dX3_likeliest_80 : decode cX3_likeliest 80 = .ok (.iaload, 1) := by decide +kernel
theorem dX3_likeliest_81 : decode cX3_likeliest 81 = .ok (.aload_n 0, 1) := by decide +kernel
theorem dX3_likeliest_82 : decode cX3_likeliest 82 = .ok (.getfield 9, 3) := by decide +kernel
theorem dX3_likeliest_85 : decode cX3_likeliest 85 = .ok (.iconst 1, 1) := by decide +kernel
theorem dX3_likeliest_86 : decode cX3_likeliest 86 = .ok (.laload, 1) := by decide +kernel
theorem dX3_likeliest_87 : decode cX3_likeliest 87 = .ok (.aload_n 0, 1) := by decide +kernel
theorem dX3_likeliest_88 : decode cX3_likeliest 88 = .ok (.getfield 18, 3) := by decide +kernel
theorem dX3_likeliest_91 : decode cX3_likeliest 91 = .ok (.iconst 1, 1) := by decide +kernel
theorem dX3_likeliest_92 : decode cX3_likeliest 92 = .ok (.iaload, 1) := by decide +kernel
theorem dX3_likeliest_93 : decode cX3_likeliest 93 = .ok (.invokestatic 86, 3) := by decide +kernel
theorem dX3_likeliest_96 : decode cX3_likeliest 96 = .ok (.ifCond .eq 7, 3) := by decide +kernel
theorem dX3_likeliest_99 : decode cX3_likeliest 99 = .ok (.iconst 2, 1) := by decide +kernel
theorem dX3_likeliest_100 : decode cX3_likeliest 100 = .ok (.goto 4, 3) := by decide +kernel
theorem dX3_likeliest_103 : decode cX3_likeliest 103 = .ok (.iconst 1, 1) := by decide +kernel
theorem dX3_likeliest_104 : decode cX3_likeliest 104 = .ok (.istore_n 2, 1) := by decide +kernel
theorem dX3_likeliest_105 : decode cX3_likeliest 105 = .ok (.aload_n 0, 1) := by decide +kernel
theorem dX3_likeliest_106 : decode cX3_likeliest 106 = .ok (.getfield 9, 3) := by decide +kernel
theorem dX3_likeliest_109 : decode cX3_likeliest 109 = .ok (.iload_n 2, 1) := by decide +kernel
theorem dX3_likeliest_110 : decode cX3_likeliest 110 = .ok (.laload, 1) := by decide +kernel
theorem dX3_likeliest_111 : decode cX3_likeliest 111 = .ok (.lconst 0, 1) := by decide +kernel
theorem dX3_likeliest_112 : decode cX3_likeliest 112 = .ok (.lcmp, 1) := by decide +kernel
theorem dX3_likeliest_113 : decode cX3_likeliest 113 = .ok (.ifCond .eq 11, 3) := by decide +kernel
theorem dX3_likeliest_116 : decode cX3_likeliest 116 = .ok (.iload_n 1, 1) := by decide +kernel
theorem dX3_likeliest_117 : decode cX3_likeliest 117 = .ok (.aload_n 0, 1) := by decide +kernel
theorem dX3_likeliest_118 : decode cX3_likeliest 118 = .ok (.invokevirtual 59, 3) := by decide +kernel
theorem dX3_likeliest_121 : decode cX3_likeliest 121 = .ok (.if_icmp .lt 6, 3) := by decide +kernel
theorem dX3_likeliest_124 : decode cX3_likeliest 124 = .ok (.bipush (-2), 2) := by decide +kernel
theorem dX3_likeliest_126 : decode cX3_likeliest 126 = .ok (.ireturn, 1) := by decide +kernel
theorem dX3_likeliest_127 : decode cX3_likeliest 127 = .ok (.aload_n 0, 1) := by decide +kernel
theorem dX3_likeliest_128 : decode cX3_likeliest 128 = .ok (.getfield 18, 3) := by decide +kernel
theorem dX3_likeliest_131 : decode cX3_likeliest 131 = .ok (.iload_n 2, 1) := by decide +kernel
theorem dX3_likeliest_132 : decode cX3_likeliest 132 = .ok (.iaload, 1) := by decide +kernel
theorem dX3_likeliest_133 : decode cX3_likeliest 133 = .ok (.iconst 4, 1) := by decide +kernel
theorem dX3_likeliest_134 : decode cX3_likeliest 134 = .ok (.aload_n 0, 1) := by decide +kernel
theorem dX3_likeliest_135 : decode cX3_likeliest 135 = .ok (.invokevirtual 59, 3) := by decide +kernel
theorem dX3_likeliest_138 : decode cX3_likeliest 138 = .ok (.iconst 1, 1) := by decide +kernel
theorem dX3_likeliest_139 : decode cX3_likeliest 139 = .ok (.isub, 1) := by decide +kernel
theorem dX3_likeliest_140 : decode cX3_likeliest 140 = .ok (.iload_n 1, 1) := by decide +kernel
theorem dX3_likeliest_141 : decode cX3_likeliest 141 = .ok (.isub, 1) := by decide +kernel
theorem dX3_likeliest_142 : decode cX3_likeliest 142 = .ok (.imul, 1) := by decide +kernel
theorem dX3_likeliest_143 : decode cX3_likeliest 143 = .ok (.ishr, 1) := by decide +kernel
theorem dX3_likeliest_144 : decode cX3_likeliest 144 = .ok (.bipush 15, 2) := by decide +kernel
theorem dX3_likeliest_146 : decode cX3_likeliest 146 = .ok (.iand, 1) := by decide +kernel
theorem dX3_likeliest_147 : decode cX3_likeliest 147 = .ok (.ireturn, 1) := by decide +kernel
theorem dX3_tryWord_0 : decode cX3_tryWord 0 = .ok (.aload_n 0, 1) := by decide +kernel
theorem dX3_tryWord_1 : decode cX3_tryWord 1 = .ok (.getfield 25, 3) := by decide +kernel
theorem dX3_tryWord_4 : decode cX3_tryWord 4 = .ok (.iload_n 1, 1) := by decide +kernel
theorem dX3_tryWord_5 : decode cX3_tryWord 5 = .ok (.iconst 2, 1) := by decide +kernel
theorem dX3_tryWord_6 : decode cX3_tryWord 6 = .ok (.invokevirtual 45, 3) := by decide +kernel
theorem dX3_tryWord_9 : decode cX3_tryWord 9 = .ok (.istore_n 3, 1) := by decide +kernel
theorem dX3_tryWord_10 : decode cX3_tryWord 10 = .ok (.iconst 0, 1) := by decide +kernel
theorem dX3_tryWord_11 : decode cX3_tryWord 11 = .ok (.istore 4, 2) := by decide +kernel
theorem dX3_tryWord_13 : decode cX3_tryWord 13 = .ok (.iload 4, 2) := by decide +kernel
theorem dX3_tryWord_15 : decode cX3_tryWord 15 = .ok (.iconst 3, 1) := by decide +kernel
theorem dX3_tryWord_16 : decode cX3_tryWord 16 = .ok (.if_icmp .gt 81, 3) := by decide +kernel
theorem dX3_tryWord_19 : decode cX3_tryWord 19 = .ok (.iload 4, 2) := by decide +kernel
theorem dX3_tryWord_21 : decode cX3_tryWord 21 = .ok (.iload_n 3, 1) := by decide +kernel
theorem dX3_tryWord_22 : decode cX3_tryWord 22 = .ok (.invokestatic 79, 3) := by decide +kernel
theorem dX3_tryWord_25 : decode cX3_tryWord 25 = .ok (.ifCond .eq 66, 3) := by decide +kernel
theorem dX3_tryWord_28 : decode cX3_tryWord 28 = .ok (.aload_n 0, 1) := by decide +kernel
theorem dX3_tryWord_29 : decode cX3_tryWord 29 = .ok (.getfield 9, 3) := by decide +kernel
theorem dX3_tryWord_32 : decode cX3_tryWord 32 = .ok (.iload 4, 2) := by decide +kernel
theorem dX3_tryWord_34 : decode cX3_tryWord 34 = .ok (.laload, 1) := by decide +kernel
theorem dX3_tryWord_35 : decode cX3_tryWord 35 = .ok (.iload_n 2, 1) := by decide +kernel
theorem dX3_tryWord_36 : decode cX3_tryWord 36 = .ok (.i2l, 1) := by decide +kernel
theorem dX3_tryWord_37 : decode cX3_tryWord 37 = .ok (.lmul, 1) := by decide +kernel
theorem dX3_tryWord_38 : decode cX3_tryWord 38 = .ok (.lstore 5, 2) := by decide +kernel
theorem dX3_tryWord_40 : decode cX3_tryWord 40 = .ok (.aload_n 0, 1) := by decide +kernel
theorem dX3_tryWord_41 : decode cX3_tryWord 41 = .ok (.getfield 18, 3) := by decide +kernel
theorem dX3_tryWord_44 : decode cX3_tryWord 44 = .ok (.iload 4, 2) := by decide +kernel
theorem dX3_tryWord_46 : decode cX3_tryWord 46 = .ok (.iaload, 1) := by decide +kernel
theorem dX3_tryWord_47 : decode cX3_tryWord 47 = .ok (.iconst 4, 1) := by decide +kernel
theorem dX3_tryWord_48 : decode cX3_tryWord 48 = .ok (.ishl, 1) := by decide +kernel
theorem dX3_tryWord_49 : decode cX3_tryWord 49 = .ok (.iload_n 1, 1) := by decide +kernel
theorem dX3_tryWord_50 : decode cX3_tryWord 50 = .ok (.ior, 1) := by decide +kernel
theorem dX3_tryWord_51 : decode cX3_tryWord 51 = .ok (.istore 7, 2) := by decide +kernel
theorem dX3_tryWord_53 : decode cX3_tryWord 53 = .ok (.lload 5, 2) := by decide +kernel
theorem dX3_tryWord_55 : decode cX3_tryWord 55 = .ok (.iload 7, 2) := by decide +kernel
theorem dX3_tryWord_57 : decode cX3_tryWord 57 = .ok (.aload_n 0, 1) := by decide +kernel
theorem dX3_tryWord_58 : decode cX3_tryWord 58 = .ok (.getfield 15, 3) := by decide +kernel
theorem dX3_tryWord_61 : decode cX3_tryWord 61 = .ok (.iload_n 3, 1) := by decide +kernel
theorem dX3_tryWord_62 : decode cX3_tryWord 62 = .ok (.laload, 1) := by decide +kernel
theorem dX3_tryWord_63 : decode cX3_tryWord 63 = .ok (.aload_n 0, 1) := by decide +kernel
theorem dX3_tryWord_64 : decode cX3_tryWord 64 = .ok (.getfield 22, 3) := by decide +kernel
theorem dX3_tryWord_67 : decode cX3_tryWord 67 = .ok (.iload_n 3, 1) := by decide +kernel
theorem dX3_tryWord_68 : decode cX3_tryWord 68 = .ok (.iaload, 1) := by decide +kernel
theorem dX3_tryWord_69 : decode cX3_tryWord 69 = .ok (.invokestatic 86, 3) := by decide +kernel
theorem dX3_tryWord_72 : decode cX3_tryWord 72 = .ok (.ifCond .eq 19, 3) := by decide +kernel
theorem dX3_tryWord_75 : decode cX3_tryWord 75 = .ok (.aload_n 0, 1) := by decide +kernel
theorem dX3_tryWord_76 : decode cX3_tryWord 76 = .ok (.getfield 15, 3) := by decide +kernel
theorem dX3_tryWord_79 : decode cX3_tryWord 79 = .ok (.iload_n 3, 1) := by decide +kernel
theorem dX3_tryWord_80 : decode cX3_tryWord 80 = .ok (.lload 5, 2) := by decide +kernel
theorem dX3_tryWord_82 : decode cX3_tryWord 82 = .ok (.lastore, 1) := by decide +kernel
theorem dX3_tryWord_83 : decode cX3_tryWord 83 = .ok (.aload_n 0, 1) := by decide +kernel
theorem dX3_tryWord_84 : decode cX3_tryWord 84 = .ok (.getfield 22, 3) := by decide +kernel
theorem dX3_tryWord_87 : decode cX3_tryWord 87 = .ok (.iload_n 3, 1) := by decide +kernel
theorem dX3_tryWord_88 : decode cX3_tryWord 88 = .ok (.iload 7, 2) := by decide +kernel
theorem dX3_tryWord_90 : decode cX3_tryWord 90 = .ok (.iastore, 1) := by decide +kernel
theorem dX3_tryWord_91 : decode cX3_tryWord 91 = .ok (.iinc 4 1, 3) := by decide +kernel
theorem dX3_tryWord_94 : decode cX3_tryWord 94 = .ok (.goto (-81), 3) := by decide +kernel
theorem dX3_tryWord_97 : decode cX3_tryWord 97 = .ok (.return_, 1) := by decide +kernel
theorem dX3_isAhead_0 : decode cX3_isAhead 0 = .ok (.lload_n 0, 1) := by decide +kernel
theorem dX3_isAhead_1 : decode cX3_isAhead 1 = .ok (.lload_n 3, 1) := by decide +kernel
theorem dX3_isAhead_2 : decode cX3_isAhead 2 = .ok (.lcmp, 1) := by decide +kernel
theorem dX3_isAhead_3 : decode cX3_isAhead 3 = .ok (.ifCond .gt 21, 3) := by decide +kernel
theorem dX3_isAhead_6 : decode cX3_isAhead 6 = .ok (.lload_n 0, 1) := by decide +kernel
theorem dX3_isAhead_7 : decode cX3_isAhead 7 = .ok (.lload_n 3, 1) := by decide +kernel
theorem dX3_isAhead_8 : decode cX3_isAhead 8 = .ok (.lcmp, 1) := by decide +kernel
theorem dX3_isAhead_9 : decode cX3_isAhead 9 = .ok (.ifCond .ne 19, 3) := by decide +kernel
theorem dX3_isAhead_12 : decode cX3_isAhead 12 = .ok (.lload_n 0, 1) := by decide +kernel
theorem dX3_isAhead_13 : decode cX3_isAhead 13 = .ok (.lconst 0, 1) := by decide +kernel
theorem dX3_isAhead_14 : decode cX3_isAhead 14 = .ok (.lcmp, 1) := by decide +kernel
theorem dX3_isAhead_15 : decode cX3_isAhead 15 = .ok (.ifCond .le 13, 3) := by decide +kernel
theorem dX3_isAhead_18 : decode cX3_isAhead 18 = .ok (.iload_n 2, 1) := by decide +kernel
theorem dX3_isAhead_19 : decode cX3_isAhead 19 = .ok (.iload 5, 2) := by decide +kernel
theorem dX3_isAhead_21 : decode cX3_isAhead 21 = .ok (.if_icmp .ge 7, 3) := by decide +kernel
theorem dX3_isAhead_24 : decode cX3_isAhead 24 = .ok (.iconst 1, 1) := by decide +kernel
theorem dX3_isAhead_25 : decode cX3_isAhead 25 = .ok (.goto 4, 3) := by decide +kernel
theorem dX3_isAhead_28 : decode cX3_isAhead 28 = .ok (.iconst 0, 1) := by decide +kernel
theorem dX3_isAhead_29 : decode cX3_isAhead 29 = .ok (.ireturn, 1) := by decide +kernel
theorem dX3_sure_0 : decode cX3_sure 0 = .ok (.aload_n 0, 1) := by decide +kernel
theorem dX3_sure_1 : decode cX3_sure 1 = .ok (.iconst 0, 1) := by decide +kernel
theorem dX3_sure_2 : decode cX3_sure 2 = .ok (.iconst 1, 1) := by decide +kernel
theorem dX3_sure_3 : decode cX3_sure 3 = .ok (.invokevirtual 90, 3) := by decide +kernel
theorem dX3_sure_6 : decode cX3_sure 6 = .ok (.lconst 0, 1) := by decide +kernel
theorem dX3_sure_7 : decode cX3_sure 7 = .ok (.lcmp, 1) := by decide +kernel
theorem dX3_sure_8 : decode cX3_sure 8 = .ok (.ifCond .ne 5, 3) := by decide +kernel
theorem dX3_sure_11 : decode cX3_sure 11 = .ok (.iconst 0, 1) := by decide +kernel
theorem dX3_sure_12 : decode cX3_sure 12 = .ok (.ireturn, 1) := by decide +kernel
theorem dX3_sure_13 : decode cX3_sure 13 = .ok (.iconst 0, 1) := by decide +kernel
theorem dX3_sure_14 : decode cX3_sure 14 = .ok (.istore_n 1, 1) := by decide +kernel
theorem dX3_sure_15 : decode cX3_sure 15 = .ok (.iconst 0, 1) := by decide +kernel
theorem dX3_sure_16 : decode cX3_sure 16 = .ok (.istore_n 2, 1) := by decide +kernel
theorem dX3_sure_17 : decode cX3_sure 17 = .ok (.iload_n 2, 1) := by decide +kernel
theorem dX3_sure_18 : decode cX3_sure 18 = .ok (.bipush 6, 2) := by decide +kernel
theorem dX3_sure_20 : decode cX3_sure 20 = .ok (.if_icmp .ge 32, 3) := by decide +kernel
theorem dX3_sure_23 : decode cX3_sure 23 = .ok (.iload_n 1, 1) := by decide +kernel
theorem dX3_sure_24 : decode cX3_sure 24 = .ok (.aload_n 0, 1) := by decide +kernel
theorem dX3_sure_25 : decode cX3_sure 25 = .ok (.iconst 1, 1) := by decide +kernel
theorem dX3_sure_26 : decode cX3_sure 26 = .ok (.iload_n 2, 1) := by decide +kernel
theorem dX3_sure_27 : decode cX3_sure 27 = .ok (.ishl, 1) := by decide +kernel
theorem dX3_sure_28 : decode cX3_sure 28 = .ok (.iconst 1, 1) := by decide +kernel
theorem dX3_sure_29 : decode cX3_sure 29 = .ok (.invokevirtual 90, 3) := by decide +kernel
theorem dX3_sure_32 : decode cX3_sure 32 = .ok (.lconst 0, 1) := by decide +kernel
theorem dX3_sure_33 : decode cX3_sure 33 = .ok (.lcmp, 1) := by decide +kernel
theorem dX3_sure_34 : decode cX3_sure 34 = .ok (.ifCond .ne 9, 3) := by decide +kernel
theorem dX3_sure_37 : decode cX3_sure 37 = .ok (.iconst 1, 1) := by decide +kernel
theorem dX3_sure_38 : decode cX3_sure 38 = .ok (.iload_n 2, 1) := by decide +kernel
theorem dX3_sure_39 : decode cX3_sure 39 = .ok (.ishl, 1) := by decide +kernel
theorem dX3_sure_40 : decode cX3_sure 40 = .ok (.goto 4, 3) := by decide +kernel
theorem dX3_sure_43 : decode cX3_sure 43 = .ok (.iconst 0, 1) := by decide +kernel
theorem dX3_sure_44 : decode cX3_sure 44 = .ok (.ior, 1) := by decide +kernel
theorem dX3_sure_45 : decode cX3_sure 45 = .ok (.istore_n 1, 1) := by decide +kernel
theorem dX3_sure_46 : decode cX3_sure 46 = .ok (.iinc 2 1, 3) := by decide +kernel
theorem dX3_sure_49 : decode cX3_sure 49 = .ok (.goto (-32), 3) := by decide +kernel
theorem dX3_sure_52 : decode cX3_sure 52 = .ok (.iload_n 1, 1) := by decide +kernel
theorem dX3_sure_53 : decode cX3_sure 53 = .ok (.ireturn, 1) := by decide +kernel
theorem dX3_allOdds_0 : decode cX3_allOdds 0 = .ok (.lconst 1, 1) := by decide +kernel
theorem dX3_allOdds_1 : decode cX3_allOdds 1 = .ok (.lstore_n 1, 1) := by decide +kernel
theorem dX3_allOdds_2 : decode cX3_allOdds 2 = .ok (.iconst 0, 1) := by decide +kernel
theorem dX3_allOdds_3 : decode cX3_allOdds 3 = .ok (.istore_n 3, 1) := by decide +kernel
theorem dX3_allOdds_4 : decode cX3_allOdds 4 = .ok (.iload_n 3, 1) := by decide +kernel
theorem dX3_allOdds_5 : decode cX3_allOdds 5 = .ok (.aload_n 0, 1) := by decide +kernel
theorem dX3_allOdds_6 : decode cX3_allOdds 6 = .ok (.invokevirtual 59, 3) := by decide +kernel
theorem dX3_allOdds_9 : decode cX3_allOdds 9 = .ok (.if_icmp .ge 15, 3) := by decide +kernel
theorem dX3_allOdds_12 : decode cX3_allOdds 12 = .ok (.lload_n 1, 1) := by decide +kernel
theorem dX3_allOdds_13 : decode cX3_allOdds 13 = .ok (.ldc2_w 94, 3) := by decide +kernel
theorem dX3_allOdds_16 : decode cX3_allOdds 16 = .ok (.lmul, 1) := by decide +kernel
theorem dX3_allOdds_17 : decode cX3_allOdds 17 = .ok (.lstore_n 1, 1) := by decide +kernel
theorem dX3_allOdds_18 : decode cX3_allOdds 18 = .ok (.iinc 3 1, 3) := by decide +kernel
theorem dX3_allOdds_21 : decode cX3_allOdds 21 = .ok (.goto (-17), 3) := by decide +kernel
theorem dX3_allOdds_24 : decode cX3_allOdds 24 = .ok (.lload_n 1, 1) := by decide +kernel
theorem dX3_allOdds_25 : decode cX3_allOdds 25 = .ok (.lreturn, 1) := by decide +kernel
theorem dX3_unharmed_0 : decode cX3_unharmed 0 = .ok (.aload_n 0, 1) := by decide +kernel
theorem dX3_unharmed_1 : decode cX3_unharmed 1 = .ok (.getfield 29, 3) := by decide +kernel
theorem dX3_unharmed_4 : decode cX3_unharmed 4 = .ok (.aload_n 0, 1) := by decide +kernel
theorem dX3_unharmed_5 : decode cX3_unharmed 5 = .ok (.invokevirtual 59, 3) := by decide +kernel
theorem dX3_unharmed_8 : decode cX3_unharmed 8 = .ok (.invokevirtual 96, 3) := by decide +kernel
theorem dX3_unharmed_11 : decode cX3_unharmed 11 = .ok (.istore_n 1, 1) := by decide +kernel
theorem dX3_unharmed_12 : decode cX3_unharmed 12 = .ok (.iconst 1, 1) := by decide +kernel
theorem dX3_unharmed_13 : decode cX3_unharmed 13 = .ok (.aload_n 0, 1) := by decide +kernel
theorem dX3_unharmed_14 : decode cX3_unharmed 14 = .ok (.invokevirtual 59, 3) := by decide +kernel
theorem dX3_unharmed_17 : decode cX3_unharmed 17 = .ok (.ishl, 1) := by decide +kernel
theorem dX3_unharmed_18 : decode cX3_unharmed 18 = .ok (.istore_n 2, 1) := by decide +kernel
theorem dX3_unharmed_19 : decode cX3_unharmed 19 = .ok (.lconst 0, 1) := by decide +kernel
theorem dX3_unharmed_20 : decode cX3_unharmed 20 = .ok (.lstore_n 3, 1) := by decide +kernel
theorem dX3_unharmed_21 : decode cX3_unharmed 21 = .ok (.iconst 0, 1) := by decide +kernel
theorem dX3_unharmed_22 : decode cX3_unharmed 22 = .ok (.istore 5, 2) := by decide +kernel
theorem dX3_unharmed_24 : decode cX3_unharmed 24 = .ok (.iload 5, 2) := by decide +kernel
theorem dX3_unharmed_26 : decode cX3_unharmed 26 = .ok (.iload_n 2, 1) := by decide +kernel
theorem dX3_unharmed_27 : decode cX3_unharmed 27 = .ok (.if_icmp .ge 28, 3) := by decide +kernel
theorem dX3_unharmed_30 : decode cX3_unharmed 30 = .ok (.aload_n 0, 1) := by decide +kernel
theorem dX3_unharmed_31 : decode cX3_unharmed 31 = .ok (.iload 5, 2) := by decide +kernel
theorem dX3_unharmed_33 : decode cX3_unharmed 33 = .ok (.invokevirtual 99, 3) := by decide +kernel
theorem dX3_unharmed_36 : decode cX3_unharmed 36 = .ok (.iload_n 1, 1) := by decide +kernel
theorem dX3_unharmed_37 : decode cX3_unharmed 37 = .ok (.if_icmp .ne 12, 3) := by decide +kernel
theorem dX3_unharmed_40 : decode cX3_unharmed 40 = .ok (.lload_n 3, 1) := by decide +kernel
theorem dX3_unharmed_41 : decode cX3_unharmed 41 = .ok (.aload_n 0, 1) := by decide +kernel
theorem dX3_unharmed_42 : decode cX3_unharmed 42 = .ok (.iload 5, 2) := by decide +kernel
theorem dX3_unharmed_44 : decode cX3_unharmed 44 = .ok (.invokevirtual 102, 3) := by decide +kernel
theorem dX3_unharmed_47 : decode cX3_unharmed 47 = .ok (.ladd, 1) := by decide +kernel
theorem dX3_unharmed_48 : decode cX3_unharmed 48 = .ok (.lstore_n 3, 1) := by decide +kernel
theorem dX3_unharmed_49 : decode cX3_unharmed 49 = .ok (.iinc 5 1, 3) := by decide +kernel
theorem dX3_unharmed_52 : decode cX3_unharmed 52 = .ok (.goto (-28), 3) := by decide +kernel
theorem dX3_unharmed_55 : decode cX3_unharmed 55 = .ok (.lload_n 3, 1) := by decide +kernel
theorem dX3_unharmed_56 : decode cX3_unharmed 56 = .ok (.lreturn, 1) := by decide +kernel
theorem dX3_senseWith_0 : decode cX3_senseWith 0 = .ok (.iconst 0, 1) := by decide +kernel
theorem dX3_senseWith_1 : decode cX3_senseWith 1 = .ok (.istore_n 2, 1) := by decide +kernel
theorem dX3_senseWith_2 : decode cX3_senseWith 2 = .ok (.iconst 0, 1) := by decide +kernel
theorem dX3_senseWith_3 : decode cX3_senseWith 3 = .ok (.istore_n 3, 1) := by decide +kernel
theorem dX3_senseWith_4 : decode cX3_senseWith 4 = .ok (.iload_n 3, 1) := by decide +kernel
theorem dX3_senseWith_5 : decode cX3_senseWith 5 = .ok (.aload_n 0, 1) := by decide +kernel
theorem dX3_senseWith_6 : decode cX3_senseWith 6 = .ok (.invokevirtual 59, 3) := by decide +kernel
theorem dX3_senseWith_9 : decode cX3_senseWith 9 = .ok (.if_icmp .ge 53, 3) := by decide +kernel
theorem dX3_senseWith_12 : decode cX3_senseWith 12 = .ok (.aload_n 0, 1) := by decide +kernel
theorem dX3_senseWith_13 : decode cX3_senseWith 13 = .ok (.getfield 29, 3) := by decide +kernel
theorem dX3_senseWith_16 : decode cX3_senseWith 16 = .ok (.iload_n 3, 1) := by decide +kernel
theorem dX3_senseWith_17 : decode cX3_senseWith 17 = .ok (.invokevirtual 65, 3) := by decide +kernel
theorem dX3_senseWith_20 : decode cX3_senseWith 20 = .ok (.istore 4, 2) := by decide +kernel
theorem dX3_senseWith_22 : decode cX3_senseWith 22 = .ok (.iload_n 2, 1) := by decide +kernel
theorem dX3_senseWith_23 : decode cX3_senseWith 23 = .ok (.aload_n 0, 1) := by decide +kernel
theorem dX3_senseWith_24 : decode cX3_senseWith 24 = .ok (.getfield 25, 3) := by decide +kernel
theorem dX3_senseWith_27 : decode cX3_senseWith 27 = .ok (.iload_n 1, 1) := by decide +kernel
theorem dX3_senseWith_28 : decode cX3_senseWith 28 = .ok (.iload_n 3, 1) := by decide +kernel
theorem dX3_senseWith_29 : decode cX3_senseWith 29 = .ok (.invokestatic 106, 3) := by decide +kernel
theorem dX3_senseWith_32 : decode cX3_senseWith 32 = .ok (.ifCond .eq 16, 3) := by decide +kernel
theorem dX3_senseWith_35 : decode cX3_senseWith 35 = .ok (.aload_n 0, 1) := by decide +kernel
theorem dX3_senseWith_36 : decode cX3_senseWith 36 = .ok (.getfield 25, 3) := by decide +kernel
theorem dX3_senseWith_39 : decode cX3_senseWith 39 = .ok (.iload 4, 2) := by decide +kernel
theorem dX3_senseWith_41 : decode cX3_senseWith 41 = .ok (.iconst 4, 1) := by decide +kernel
theorem dX3_senseWith_42 : decode cX3_senseWith 42 = .ok (.invokevirtual 45, 3) := by decide +kernel
theorem dX3_senseWith_45 : decode cX3_senseWith 45 = .ok (.goto 5, 3) := by decide +kernel
theorem dX3_senseWith_48 : decode cX3_senseWith 48 = .ok (.iload 4, 2) := by decide +kernel
theorem dX3_senseWith_50 : decode cX3_senseWith 50 = .ok (.iconst 1, 1) := by decide +kernel
theorem dX3_senseWith_51 : decode cX3_senseWith 51 = .ok (.invokevirtual 45, 3) := by decide +kernel
theorem dX3_senseWith_54 : decode cX3_senseWith 54 = .ok (.ior, 1) := by decide +kernel
theorem dX3_senseWith_55 : decode cX3_senseWith 55 = .ok (.istore_n 2, 1) := by decide +kernel
theorem dX3_senseWith_56 : decode cX3_senseWith 56 = .ok (.iinc 3 1, 3) := by decide +kernel
theorem dX3_senseWith_59 : decode cX3_senseWith 59 = .ok (.goto (-55), 3) := by decide +kernel
theorem dX3_senseWith_62 : decode cX3_senseWith 62 = .ok (.iload_n 2, 1) := by decide +kernel
theorem dX3_senseWith_63 : decode cX3_senseWith 63 = .ok (.ireturn, 1) := by decide +kernel
theorem dX3_oddsWith_0 : decode cX3_oddsWith 0 = .ok (.aload_n 0, 1) := by decide +kernel
theorem dX3_oddsWith_1 : decode cX3_oddsWith 1 = .ok (.getfield 25, 3) := by decide +kernel
theorem dX3_oddsWith_4 : decode cX3_oddsWith 4 = .ok (.iconst 0, 1) := by decide +kernel
theorem dX3_oddsWith_5 : decode cX3_oddsWith 5 = .ok (.bipush 8, 2) := by decide +kernel
theorem dX3_oddsWith_7 : decode cX3_oddsWith 7 = .ok (.invokevirtual 45, 3) := by decide +kernel
theorem dX3_oddsWith_10 : decode cX3_oddsWith 10 = .ok (.istore_n 2, 1) := by decide +kernel
theorem dX3_oddsWith_11 : decode cX3_oddsWith 11 = .ok (.lconst 1, 1) := by decide +kernel
theorem dX3_oddsWith_12 : decode cX3_oddsWith 12 = .ok (.lstore_n 3, 1) := by decide +kernel
theorem dX3_oddsWith_13 : decode cX3_oddsWith 13 = .ok (.iconst 0, 1) := by decide +kernel
theorem dX3_oddsWith_14 : decode cX3_oddsWith 14 = .ok (.istore 5, 2) := by decide +kernel
theorem dX3_oddsWith_16 : decode cX3_oddsWith 16 = .ok (.iload 5, 2) := by decide +kernel
theorem dX3_oddsWith_18 : decode cX3_oddsWith 18 = .ok (.aload_n 0, 1) := by decide +kernel
theorem dX3_oddsWith_19 : decode cX3_oddsWith 19 = .ok (.invokevirtual 59, 3) := by decide +kernel
theorem dX3_oddsWith_22 : decode cX3_oddsWith 22 = .ok (.if_icmp .ge 31, 3) := by decide +kernel
theorem dX3_oddsWith_25 : decode cX3_oddsWith 25 = .ok (.lload_n 3, 1) := by decide +kernel
theorem dX3_oddsWith_26 : decode cX3_oddsWith 26 = .ok (.iload_n 1, 1) := by decide +kernel
theorem dX3_oddsWith_27 : decode cX3_oddsWith 27 = .ok (.iload 5, 2) := by decide +kernel
theorem dX3_oddsWith_29 : decode cX3_oddsWith 29 = .ok (.invokestatic 106, 3) := by decide +kernel
theorem dX3_oddsWith_32 : decode cX3_oddsWith 32 = .ok (.ifCond .eq 8, 3) := by decide +kernel
theorem dX3_oddsWith_35 : decode cX3_oddsWith 35 = .ok (.iload_n 2, 1) := by decide +kernel
theorem dX3_oddsWith_36 : decode cX3_oddsWith 36 = .ok (.i2l, 1) := by decide +kernel
theorem dX3_oddsWith_37 : decode cX3_oddsWith 37 = .ok (.goto 8, 3) := by decide +kernel
theorem dX3_oddsWith_40 : decode cX3_oddsWith 40 = .ok (.bipush 12, 2) := by decide +kernel
theorem dX3_oddsWith_42 : decode cX3_oddsWith 42 = .ok (.iload_n 2, 1) := by decide +kernel
theorem dX3_oddsWith_43 : decode cX3_oddsWith 43 = .ok (.isub, 1) := by decide +kernel
theorem dX3_oddsWith_44 : decode cX3_oddsWith 44 = .ok (.i2l, 1) := by decide +kernel
theorem dX3_oddsWith_45 : decode cX3_oddsWith 45 = .ok (.lmul, 1) := by decide +kernel
theorem dX3_oddsWith_46 : decode cX3_oddsWith 46 = .ok (.lstore_n 3, 1) := by decide +kernel
theorem dX3_oddsWith_47 : decode cX3_oddsWith 47 = .ok (.iinc 5 1, 3) := by decide +kernel
theorem dX3_oddsWith_50 : decode cX3_oddsWith 50 = .ok (.goto (-34), 3) := by decide +kernel
theorem dX3_oddsWith_53 : decode cX3_oddsWith 53 = .ok (.lload_n 3, 1) := by decide +kernel
theorem dX3_oddsWith_54 : decode cX3_oddsWith 54 = .ok (.lreturn, 1) := by decide +kernel
theorem dX3_draws_0 : decode cX3_draws 0 = .ok (.aload_n 0, 1) := by decide +kernel
theorem dX3_draws_1 : decode cX3_draws 1 = .ok (.getfield 25, 3) := by decide +kernel
theorem dX3_draws_4 : decode cX3_draws 4 = .ok (.getfield 62, 3) := by decide +kernel
theorem dX3_draws_7 : decode cX3_draws 7 = .ok (.istore 4, 2) := by decide +kernel
theorem dX3_draws_9 : decode cX3_draws 9 = .ok (.aload_n 0, 1) := by decide +kernel
theorem dX3_draws_10 : decode cX3_draws 10 = .ok (.getfield 25, 3) := by decide +kernel
theorem dX3_draws_13 : decode cX3_draws 13 = .ok (.iconst 0, 1) := by decide +kernel
theorem dX3_draws_14 : decode cX3_draws 14 = .ok (.bipush 8, 2) := by decide +kernel
theorem dX3_draws_16 : decode cX3_draws 16 = .ok (.invokevirtual 45, 3) := by decide +kernel
theorem dX3_draws_19 : decode cX3_draws 19 = .ok (.istore 5, 2) := by decide +kernel
theorem dX3_draws_21 : decode cX3_draws 21 = .ok (.iconst 0, 1) := by decide +kernel
theorem dX3_draws_22 : decode cX3_draws 22 = .ok (.istore 6, 2) := by decide +kernel
theorem dX3_draws_24 : decode cX3_draws 24 = .ok (.iload_n 1, 1) := by decide +kernel
theorem dX3_draws_25 : decode cX3_draws 25 = .ok (.istore 7, 2) := by decide +kernel
theorem dX3_draws_27 : decode cX3_draws 27 = .ok (.iconst 0, 1) := by decide +kernel
theorem dX3_draws_28 : decode cX3_draws 28 = .ok (.istore 8, 2) := by decide +kernel
theorem dX3_draws_30 : decode cX3_draws 30 = .ok (.iload 8, 2) := by decide +kernel
theorem dX3_draws_32 : decode cX3_draws 32 = .ok (.iload_n 2, 1) := by decide +kernel
theorem dX3_draws_33 : decode cX3_draws 33 = .ok (.if_icmp .ge 209, 3) := by decide +kernel
theorem dX3_draws_36 : decode cX3_draws 36 = .ok (.iload 4, 2) := by decide +kernel
theorem dX3_draws_38 : decode cX3_draws 38 = .ok (.ifCond .le 204, 3) := by decide +kernel
theorem dX3_draws_41 : decode cX3_draws 41 = .ok (.iconst 3, 1) := by decide +kernel
theorem dX3_draws_42 : decode cX3_draws 42 = .ok (.istore 9, 2) := by decide +kernel
theorem dX3_draws_44 : decode cX3_draws 44 = .ok (.iconst 0, 1) := by decide +kernel
theorem dX3_draws_45 : decode cX3_draws 45 = .ok (.istore 10, 2) := by decide +kernel
theorem dX3_draws_47 : decode cX3_draws 47 = .ok (.iconst 0, 1) := by decide +kernel
theorem dX3_draws_48 : decode cX3_draws 48 = .ok (.istore 11, 2) := by decide +kernel
theorem dX3_draws_50 : decode cX3_draws 50 = .ok (.iconst 1, 1) := by decide +kernel
theorem dX3_draws_51 : decode cX3_draws 51 = .ok (.istore 12, 2) := by decide +kernel
theorem dX3_draws_53 : decode cX3_draws 53 = .ok (.iconst 0, 1) := by decide +kernel
theorem dX3_draws_54 : decode cX3_draws 54 = .ok (.istore 13, 2) := by decide +kernel
theorem dX3_draws_56 : decode cX3_draws 56 = .ok (.iload 13, 2) := by decide +kernel
theorem dX3_draws_58 : decode cX3_draws 58 = .ok (.iconst 3, 1) := by decide +kernel
theorem dX3_draws_59 : decode cX3_draws 59 = .ok (.if_icmp .ge 140, 3) := by decide +kernel
theorem dX3_draws_62 : decode cX3_draws 62 = .ok (.iload 7, 2) := by decide +kernel
theorem dX3_draws_64 : decode cX3_draws 64 = .ok (.ldc 109, 2) := by decide +kernel
theorem dX3_draws_66 : decode cX3_draws 66 = .ok (.imul, 1) := by decide +kernel
theorem dX3_draws_67 : decode cX3_draws 67 = .ok (.sipush 12345, 3) := by decide +kernel
theorem dX3_draws_70 : decode cX3_draws 70 = .ok (.iadd, 1) := by decide +kernel
theorem dX3_draws_71 : decode cX3_draws 71 = .ok (.istore 7, 2) := by decide +kernel
theorem dX3_draws_73 : decode cX3_draws 73 = .ok (.iload 7, 2) := by decide +kernel
theorem dX3_draws_75 : decode cX3_draws 75 = .ok (.bipush 10, 2) := by decide +kernel
theorem dX3_draws_77 : decode cX3_draws 77 = .ok (.iushr, 1) := by decide +kernel
theorem dX3_draws_78 : decode cX3_draws 78 = .ok (.iload 4, 2) := by decide +kernel
theorem dX3_draws_80 : decode cX3_draws 80 = .ok (.irem, 1) := by decide +kernel
theorem dX3_draws_81 : decode cX3_draws 81 = .ok (.istore 14, 2) := by decide +kernel
theorem dX3_draws_83 : decode cX3_draws 83 = .ok (.iload 7, 2) := by decide +kernel
theorem dX3_draws_85 : decode cX3_draws 85 = .ok (.bipush 18, 2) := by decide +kernel
theorem dX3_draws_87 : decode cX3_draws 87 = .ok (.iushr, 1) := by decide +kernel
theorem dX3_draws_88 : decode cX3_draws 88 = .ok (.bipush 12, 2) := by decide +kernel
theorem dX3_draws_90 : decode cX3_draws 90 = .ok (.irem, 1) := by decide +kernel
theorem dX3_draws_91 : decode cX3_draws 91 = .ok (.iload 5, 2) := by decide +kernel
theorem dX3_draws_93 : decode cX3_draws 93 = .ok (.if_icmp .ge 7, 3) := by decide +kernel
theorem dX3_draws_96 : decode cX3_draws 96 = .ok (.iconst 1, 1) := by decide +kernel
theorem dX3_draws_97 : decode cX3_draws 97 = .ok (.goto 4, 3) := by decide +kernel
theorem dX3_draws_100 : decode cX3_draws 100 = .ok (.iconst 0, 1) := by decide +kernel
theorem dX3_draws_101 : decode cX3_draws 101 = .ok (.istore 15, 2) := by decide +kernel
theorem dX3_draws_103 : decode cX3_draws 103 = .ok (.iload 12, 2) := by decide +kernel
theorem dX3_draws_105 : decode cX3_draws 105 = .ok (.ifCond .eq 25, 3) := by decide +kernel
theorem dX3_draws_108 : decode cX3_draws 108 = .ok (.iload 9, 2) := by decide +kernel
theorem dX3_draws_110 : decode cX3_draws 110 = .ok (.aload_n 0, 1) := by decide +kernel
theorem dX3_draws_111 : decode cX3_draws 111 = .ok (.getfield 25, 3) := by decide +kernel
theorem dX3_draws_114 : decode cX3_draws 114 = .ok (.iload 14, 2) := by decide +kernel
theorem dX3_draws_116 : decode cX3_draws 116 = .ok (.iconst 2, 1) := by decide +kernel
theorem dX3_draws_117 : decode cX3_draws 117 = .ok (.invokevirtual 45, 3) := by decide +kernel
theorem dX3_draws_120 : decode cX3_draws 120 = .ok (.invokestatic 79, 3) := by decide +kernel
theorem dX3_draws_123 : decode cX3_draws 123 = .ok (.ifCond .eq 7, 3) := by decide +kernel
theorem dX3_draws_126 : decode cX3_draws 126 = .ok (.iconst 1, 1) := by decide +kernel
theorem dX3_draws_127 : decode cX3_draws 127 = .ok (.goto 4, 3) := by decide +kernel
theorem dX3_draws_130 : decode cX3_draws 130 = .ok (.iconst 0, 1) := by decide +kernel
theorem dX3_draws_131 : decode cX3_draws 131 = .ok (.istore 12, 2) := by decide +kernel
theorem dX3_draws_133 : decode cX3_draws 133 = .ok (.aload_n 0, 1) := by decide +kernel
theorem dX3_draws_134 : decode cX3_draws 134 = .ok (.getfield 25, 3) := by decide +kernel
theorem dX3_draws_137 : decode cX3_draws 137 = .ok (.iload 14, 2) := by decide +kernel
theorem dX3_draws_139 : decode cX3_draws 139 = .ok (.iconst 2, 1) := by decide +kernel
theorem dX3_draws_140 : decode cX3_draws 140 = .ok (.invokevirtual 45, 3) := by decide +kernel
theorem dX3_draws_143 : decode cX3_draws 143 = .ok (.istore 9, 2) := by decide +kernel
theorem dX3_draws_145 : decode cX3_draws 145 = .ok (.iload 10, 2) := by decide +kernel
theorem dX3_draws_147 : decode cX3_draws 147 = .ok (.aload_n 0, 1) := by decide +kernel
theorem dX3_draws_148 : decode cX3_draws 148 = .ok (.getfield 25, 3) := by decide +kernel
theorem dX3_draws_151 : decode cX3_draws 151 = .ok (.iload 14, 2) := by decide +kernel
theorem dX3_draws_153 : decode cX3_draws 153 = .ok (.iconst 1, 1) := by decide +kernel
theorem dX3_draws_154 : decode cX3_draws 154 = .ok (.invokevirtual 45, 3) := by decide +kernel
theorem dX3_draws_157 : decode cX3_draws 157 = .ok (.ior, 1) := by decide +kernel
theorem dX3_draws_158 : decode cX3_draws 158 = .ok (.istore 10, 2) := by decide +kernel
theorem dX3_draws_160 : decode cX3_draws 160 = .ok (.iload 11, 2) := by decide +kernel
theorem dX3_draws_162 : decode cX3_draws 162 = .ok (.aload_n 0, 1) := by decide +kernel
theorem dX3_draws_163 : decode cX3_draws 163 = .ok (.getfield 25, 3) := by decide +kernel
theorem dX3_draws_166 : decode cX3_draws 166 = .ok (.iload 15, 2) := by decide +kernel
theorem dX3_draws_168 : decode cX3_draws 168 = .ok (.ifCond .eq 16, 3) := by decide +kernel
theorem dX3_draws_171 : decode cX3_draws 171 = .ok (.aload_n 0, 1) := by decide +kernel
theorem dX3_draws_172 : decode cX3_draws 172 = .ok (.getfield 25, 3) := by decide +kernel
theorem dX3_draws_175 : decode cX3_draws 175 = .ok (.iload 14, 2) := by decide +kernel
theorem dX3_draws_177 : decode cX3_draws 177 = .ok (.iconst 4, 1) := by decide +kernel
theorem dX3_draws_178 : decode cX3_draws 178 = .ok (.invokevirtual 45, 3) := by decide +kernel
theorem dX3_draws_181 : decode cX3_draws 181 = .ok (.goto 5, 3) := by decide +kernel
theorem dX3_draws_184 : decode cX3_draws 184 = .ok (.iload 14, 2) := by decide +kernel
theorem dX3_draws_186 : decode cX3_draws 186 = .ok (.iconst 1, 1) := by decide +kernel
theorem dX3_draws_187 : decode cX3_draws 187 = .ok (.invokevirtual 45, 3) := by decide +kernel
theorem dX3_draws_190 : decode cX3_draws 190 = .ok (.ior, 1) := by decide +kernel
theorem dX3_draws_191 : decode cX3_draws 191 = .ok (.istore 11, 2) := by decide +kernel
theorem dX3_draws_193 : decode cX3_draws 193 = .ok (.iinc 13 1, 3) := by decide +kernel
theorem dX3_draws_196 : decode cX3_draws 196 = .ok (.goto (-140), 3) := by decide +kernel
theorem dX3_draws_199 : decode cX3_draws 199 = .ok (.iload 6, 2) := by decide +kernel
theorem dX3_draws_201 : decode cX3_draws 201 = .ok (.iload_n 3, 1) := by decide +kernel
theorem dX3_draws_202 : decode cX3_draws 202 = .ok (.ifCond .eq 19, 3) := by decide +kernel
theorem dX3_draws_205 : decode cX3_draws 205 = .ok (.iload 12, 2) := by decide +kernel
theorem dX3_draws_207 : decode cX3_draws 207 = .ok (.ifCond .eq 25, 3) := by decide +kernel
theorem dX3_draws_210 : decode cX3_draws 210 = .ok (.iload 9, 2) := by decide +kernel
theorem dX3_draws_212 : decode cX3_draws 212 = .ok (.invokestatic 110, 3) := by decide +kernel
theorem dX3_draws_215 : decode cX3_draws 215 = .ok (.ifCond .eq 17, 3) := by decide +kernel
theorem dX3_draws_218 : decode cX3_draws 218 = .ok (.goto 10, 3) := by decide +kernel
theorem dX3_draws_221 : decode cX3_draws 221 = .ok (.iload 10, 2) := by decide +kernel
theorem dX3_draws_223 : decode cX3_draws 223 = .ok (.iload 11, 2) := by decide +kernel
theorem dX3_draws_225 : decode cX3_draws 225 = .ok (.if_icmp .eq 7, 3) := by decide +kernel
theorem dX3_draws_228 : decode cX3_draws 228 = .ok (.iconst 1, 1) := by decide +kernel
theorem dX3_draws_229 : decode cX3_draws 229 = .ok (.goto 4, 3) := by decide +kernel
theorem dX3_draws_232 : decode cX3_draws 232 = .ok (.iconst 0, 1) := by decide +kernel
theorem dX3_draws_233 : decode cX3_draws 233 = .ok (.iadd, 1) := by decide +kernel
theorem dX3_draws_234 : decode cX3_draws 234 = .ok (.istore 6, 2) := by decide +kernel
theorem dX3_draws_236 : decode cX3_draws 236 = .ok (.iinc 8 1, 3) := by decide +kernel
theorem dX3_draws_239 : decode cX3_draws 239 = .ok (.goto (-209), 3) := by decide +kernel
theorem dX3_draws_242 : decode cX3_draws 242 = .ok (.iload 6, 2) := by decide +kernel
theorem dX3_draws_244 : decode cX3_draws 244 = .ok (.ireturn, 1) := by decide +kernel
theorem dX4_init_0 : decode cX4_init 0 = .ok (.aload_n 0, 1) := by decide +kernel
theorem dX4_init_1 : decode cX4_init 1 = .ok (.invokespecial 5, 3) := by decide +kernel
theorem dX4_init_4 : decode cX4_init 4 = .ok (.aload_n 0, 1) := by decide +kernel
theorem dX4_init_5 : decode cX4_init 5 = .ok (.bipush 120, 2) := by decide +kernel
theorem dX4_init_7 : decode cX4_init 7 = .ok (.newarray .int, 2) := by decide +kernel
theorem dX4_init_9 : decode cX4_init 9 = .ok (.putfield 11, 3) := by decide +kernel
theorem dX4_init_12 : decode cX4_init 12 = .ok (.aload_n 0, 1) := by decide +kernel
theorem dX4_init_13 : decode cX4_init 13 = .ok (.bipush 121, 2) := by decide +kernel
theorem dX4_init_15 : decode cX4_init 15 = .ok (.newarray .int, 2) := by decide +kernel
theorem dX4_init_17 : decode cX4_init 17 = .ok (.putfield 15, 3) := by decide +kernel
theorem dX4_init_20 : decode cX4_init 20 = .ok (.aload_n 0, 1) := by decide +kernel
theorem dX4_init_21 : decode cX4_init 21 = .ok (.bipush 121, 2) := by decide +kernel
theorem dX4_init_23 : decode cX4_init 23 = .ok (.newarray .int, 2) := by decide +kernel
theorem dX4_init_25 : decode cX4_init 25 = .ok (.putfield 18, 3) := by decide +kernel
theorem dX4_init_28 : decode cX4_init 28 = .ok (.aload_n 0, 1) := by decide +kernel
theorem dX4_init_29 : decode cX4_init 29 = .ok (.ldc 21, 2) := by decide +kernel
theorem dX4_init_31 : decode cX4_init 31 = .ok (.invokevirtual 23, 3) := by decide +kernel
theorem dX4_init_34 : decode cX4_init 34 = .ok (.newarray .int, 2) := by decide +kernel
theorem dX4_init_36 : decode cX4_init 36 = .ok (.putfield 29, 3) := by decide +kernel
theorem dX4_init_39 : decode cX4_init 39 = .ok (.aload_n 0, 1) := by decide +kernel
theorem dX4_init_40 : decode cX4_init 40 = .ok (.bipush 121, 2) := by decide +kernel
theorem dX4_init_42 : decode cX4_init 42 = .ok (.newarray .int, 2) := by decide +kernel
theorem dX4_init_44 : decode cX4_init 44 = .ok (.putfield 32, 3) := by decide +kernel
theorem dX4_init_47 : decode cX4_init 47 = .ok (.aload_n 0, 1) := by decide +kernel
theorem dX4_init_48 : decode cX4_init 48 = .ok (.aload_n 1, 1) := by decide +kernel
theorem dX4_init_49 : decode cX4_init 49 = .ok (.putfield 35, 3) := by decide +kernel
theorem dX4_init_52 : decode cX4_init 52 = .ok (.return_, 1) := by decide +kernel
theorem dX4_feedOne_0 : decode cX4_feedOne 0 = .ok (.aload_n 0, 1) := by decide +kernel
theorem dX4_feedOne_1 : decode cX4_feedOne 1 = .ok (.getfield 39, 3) := by decide +kernel
theorem dX4_feedOne_4 : decode cX4_feedOne 4 = .ok (.ifCond .lt 12, 3) := by decide +kernel
theorem dX4_feedOne_7 : decode cX4_feedOne 7 = .ok (.aload_n 0, 1) := by decide +kernel
theorem dX4_feedOne_8 : decode cX4_feedOne 8 = .ok (.getfield 39, 3) := by decide +kernel
theorem dX4_feedOne_11 : decode cX4_feedOne 11 = .ok (.bipush 120, 2) := by decide +kernel
theorem dX4_feedOne_13 : decode cX4_feedOne 13 = .ok (.if_icmp .lt 6, 3) := by decide +kernel
theorem dX4_feedOne_16 : decode cX4_feedOne 16 = .ok (.bipush (-3), 2) := by decide +kernel
theorem dX4_feedOne_18 : decode cX4_feedOne 18 = .ok (.ireturn, 1) := by decide +kernel
theorem dX4_feedOne_19 : decode cX4_feedOne 19 = .ok (.aload_n 0, 1) := by decide +kernel
theorem dX4_feedOne_20 : decode cX4_feedOne 20 = .ok (.getfield 11, 3) := by decide +kernel
theorem dX4_feedOne_23 : decode cX4_feedOne 23 = .ok (.aload_n 0, 1) := by decide +kernel
theorem dX4_feedOne_24 : decode cX4_feedOne 24 = .ok (.dup, 1) := by decide +kernel
theorem dX4_feedOne_25 : decode cX4_feedOne 25 = .ok (.getfield 39, 3) := by decide +kernel
theorem dX4_feedOne_28 : decode cX4_feedOne 28 = .ok (.dup_x1, 1) := by decide +kernel
theorem dX4_feedOne_29 : decode cX4_feedOne 29 = .ok (.iconst 1, 1) := by decide +kernel
theorem dX4_feedOne_30 : decode cX4_feedOne 30 = .ok (.iadd, 1) := by decide +kernel
theorem dX4_feedOne_31 : decode cX4_feedOne 31 = .ok (.putfield 39, 3) := by decide +kernel
theorem dX4_feedOne_34 : decode cX4_feedOne 34 = .ok (.iload_n 1, 1) := by decide +kernel
theorem dX4_feedOne_35 : decode cX4_feedOne 35 = .ok (.iastore, 1) := by decide +kernel
theorem dX4_feedOne_36 : decode cX4_feedOne 36 = .ok (.aload_n 0, 1) := by decide +kernel
theorem dX4_feedOne_37 : decode cX4_feedOne 37 = .ok (.getfield 39, 3) := by decide +kernel
theorem dX4_feedOne_40 : decode cX4_feedOne 40 = .ok (.ireturn, 1) := by decide +kernel
theorem dX4_adopt_0 : decode cX4_adopt 0 = .ok (.aload_n 0, 1) := by decide +kernel
theorem dX4_adopt_1 : decode cX4_adopt 1 = .ok (.invokevirtual 43, 3) := by decide +kernel
theorem dX4_adopt_4 : decode cX4_adopt 4 = .ok (.istore_n 1, 1) := by decide +kernel
theorem dX4_adopt_5 : decode cX4_adopt 5 = .ok (.iload_n 1, 1) := by decide +kernel
theorem dX4_adopt_6 : decode cX4_adopt 6 = .ok (.ifCond .eq 7, 3) := by decide +kernel
theorem dX4_adopt_9 : decode cX4_adopt 9 = .ok (.iconst 1, 1) := by decide +kernel
theorem dX4_adopt_10 : decode cX4_adopt 10 = .ok (.goto 10, 3) := by decide +kernel
theorem dX4_adopt_13 : decode cX4_adopt 13 = .ok (.bipush (-100), 2) := by decide +kernel
theorem dX4_adopt_15 : decode cX4_adopt 15 = .ok (.aload_n 0, 1) := by decide +kernel
theorem dX4_adopt_16 : decode cX4_adopt 16 = .ok (.getfield 47, 3) := by decide +kernel
theorem dX4_adopt_19 : decode cX4_adopt 19 = .ok (.isub, 1) := by decide +kernel
theorem dX4_adopt_20 : decode cX4_adopt 20 = .ok (.istore_n 2, 1) := by decide +kernel
theorem dX4_adopt_21 : decode cX4_adopt 21 = .ok (.iload_n 1, 1) := by decide +kernel
theorem dX4_adopt_22 : decode cX4_adopt 22 = .ok (.ifCond .eq 42, 3) := by decide +kernel
theorem dX4_adopt_25 : decode cX4_adopt 25 = .ok (.aload_n 0, 1) := by decide +kernel
theorem dX4_adopt_26 : decode cX4_adopt 26 = .ok (.getfield 15, 3) := by decide +kernel
theorem dX4_adopt_29 : decode cX4_adopt 29 = .ok (.astore_n 3, 1) := by decide +kernel
theorem dX4_adopt_30 : decode cX4_adopt 30 = .ok (.aload_n 0, 1) := by decide +kernel
theorem dX4_adopt_31 : decode cX4_adopt 31 = .ok (.aload_n 0, 1) := by decide +kernel
theorem dX4_adopt_32 : decode cX4_adopt 32 = .ok (.getfield 18, 3) := by decide +kernel
theorem dX4_adopt_35 : decode cX4_adopt 35 = .ok (.putfield 15, 3) := by decide +kernel
theorem dX4_adopt_38 : decode cX4_adopt 38 = .ok (.aload_n 0, 1) := by decide +kernel
theorem dX4_adopt_39 : decode cX4_adopt 39 = .ok (.aload_n 3, 1) := by decide +kernel
theorem dX4_adopt_40 : decode cX4_adopt 40 = .ok (.putfield 18, 3) := by decide +kernel
theorem dX4_adopt_43 : decode cX4_adopt 43 = .ok (.aload_n 0, 1) := by decide +kernel
theorem dX4_adopt_44 : decode cX4_adopt 44 = .ok (.aload_n 0, 1) := by decide +kernel
theorem dX4_adopt_45 : decode cX4_adopt 45 = .ok (.getfield 50, 3) := by decide +kernel
theorem dX4_adopt_48 : decode cX4_adopt 48 = .ok (.putfield 53, 3) := by decide +kernel
theorem dX4_adopt_51 : decode cX4_adopt 51 = .ok (.aload_n 0, 1) := by decide +kernel
theorem dX4_adopt_52 : decode cX4_adopt 52 = .ok (.getfield 35, 3) := by decide +kernel
theorem dX4_adopt_55 : decode cX4_adopt 55 = .ok (.dup, 1) := by decide +kernel
theorem dX4_adopt_56 : decode cX4_adopt 56 = .ok (.getfield 56, 3) := by decide +kernel
theorem dX4_adopt_59 : decode cX4_adopt 59 = .ok (.iconst 1, 1) := by decide +kernel
theorem dX4_adopt_60 : decode cX4_adopt 60 = .ok (.iadd, 1) := by decide +kernel
theorem dX4_adopt_61 : decode cX4_adopt 61 = .ok (.putfield 56, 3) := by decide +kernel
theorem dX4_adopt_64 : decode cX4_adopt 64 = .ok (.aload_n 0, 1) := by decide +kernel
theorem dX4_adopt_65 : decode cX4_adopt 65 = .ok (.iconst 0, 1) := by decide +kernel
theorem dX4_adopt_66 : decode cX4_adopt 66 = .ok (.putfield 39, 3) := by decide +kernel
theorem dX4_adopt_69 : decode cX4_adopt 69 = .ok (.iload_n 2, 1) := by decide +kernel
theorem dX4_adopt_70 : decode cX4_adopt 70 = .ok (.ireturn, 1) := by decide +kernel
theorem dX4_readText_0 : decode cX4_readText 0 = .ok (.aload_n 0, 1) := by decide +kernel
theorem dX4_readText_1 : decode cX4_readText 1 = .ok (.iconst 0, 1) := by decide +kernel
theorem dX4_readText_2 : decode cX4_readText 2 = .ok (.putfield 47, 3) := by decide +kernel
theorem dX4_readText_5 : decode cX4_readText 5 = .ok (.aload_n 0, 1) := by decide +kernel
theorem dX4_readText_6 : decode cX4_readText 6 = .ok (.iconst 0, 1) := by decide +kernel
theorem dX4_readText_7 : decode cX4_readText 7 = .ok (.putfield 50, 3) := by decide +kernel
theorem dX4_readText_10 : decode cX4_readText 10 = .ok (.iconst 0, 1) := by decide +kernel
theorem dX4_readText_11 : decode cX4_readText 11 = .ok (.istore_n 1, 1) := by decide +kernel
theorem dX4_readText_12 : decode cX4_readText 12 = .ok (.iload_n 1, 1) := by decide +kernel
theorem dX4_readText_13 : decode cX4_readText 13 = .ok (.bipush 121, 2) := by decide +kernel
theorem dX4_readText_15 : decode cX4_readText 15 = .ok (.if_icmp .ge 42, 3) := by decide +kernel
theorem dX4_readText_18 : decode cX4_readText 18 = .ok (.aload_n 0, 1) := by decide +kernel
theorem dX4_readText_19 : decode cX4_readText 19 = .ok (.invokevirtual 61, 3) := by decide +kernel
theorem dX4_readText_22 : decode cX4_readText 22 = .ok (.ifCond .ne 5, 3) := by decide +kernel
theorem dX4_readText_25 : decode cX4_readText 25 = .ok (.iconst 0, 1) := by decide +kernel
theorem dX4_readText_26 : decode cX4_readText 26 = .ok (.ireturn, 1) := by decide +kernel
theorem dX4_readText_27 : decode cX4_readText 27 = .ok (.aload_n 0, 1) := by decide +kernel
theorem dX4_readText_28 : decode cX4_readText 28 = .ok (.getfield 47, 3) := by decide +kernel
theorem dX4_readText_31 : decode cX4_readText 31 = .ok (.aload_n 0, 1) := by decide +kernel
theorem dX4_readText_32 : decode cX4_readText 32 = .ok (.getfield 39, 3) := by decide +kernel
theorem dX4_readText_35 : decode cX4_readText 35 = .ok (.if_icmp .lt 5, 3) := by decide +kernel
theorem dX4_readText_38 : decode cX4_readText 38 = .ok (.iconst 1, 1) := by decide +kernel
theorem dX4_readText_39 : decode cX4_readText 39 = .ok (.ireturn, 1) := by decide +kernel
theorem dX4_readText_40 : decode cX4_readText 40 = .ok (.aload_n 0, 1) := by decide +kernel
theorem dX4_readText_41 : decode cX4_readText 41 = .ok (.bipush 59, 2) := by decide +kernel
theorem dX4_readText_43 : decode cX4_readText 43 = .ok (.invokevirtual 64, 3) := by decide +kernel
theorem dX4_readText_46 : decode cX4_readText 46 = .ok (.ifCond .ne 5, 3) := by decide +kernel
theorem dX4_readText_49 : decode cX4_readText 49 = .ok (.iconst 0, 1) := by decide +kernel
theorem dX4_readText_50 : decode cX4_readText 50 = .ok (.ireturn, 1) := by decide +kernel
theorem dX4_readText_51 : decode cX4_readText 51 = .ok (.iinc 1 1, 3) := by decide +kernel
theorem dX4_readText_54 : decode cX4_readText 54 = .ok (.goto (-42), 3) := by decide +kernel
theorem dX4_readText_57 : decode cX4_readText 57 = .ok (.iconst 0, 1) := by decide +kernel
theorem dX4_readText_58 : decode cX4_readText 58 = .ok (.ireturn, 1) := by decide +kernel
theorem dX4_readLine_0 : decode cX4_readLine 0 = .ok (.aload_n 0, 1) := by decide +kernel
theorem dX4_readLine_1 : decode cX4_readLine 1 = .ok (.iconst 0, 1) := by decide +kernel
theorem dX4_readLine_2 : decode cX4_readLine 2 = .ok (.invokevirtual 68, 3) := by decide +kernel
theorem dX4_readLine_5 : decode cX4_readLine 5 = .ok (.ifCond .ne 5, 3) := by decide +kernel
theorem dX4_readLine_8 : decode cX4_readLine 8 = .ok (.iconst 0, 1) := by decide +kernel
theorem dX4_readLine_9 : decode cX4_readLine 9 = .ok (.ireturn, 1) := by decide +kernel
theorem dX4_readLine_10 : decode cX4_readLine 10 = .ok (.aload_n 0, 1) := by decide +kernel
theorem dX4_readLine_11 : decode cX4_readLine 11 = .ok (.bipush 63, 2) := by decide +kernel
theorem dX4_readLine_13 : decode cX4_readLine 13 = .ok (.invokevirtual 64, 3) := by decide +kernel
theorem dX4_readLine_16 : decode cX4_readLine 16 = .ok (.ifCond .eq 19, 3) := by decide +kernel
theorem dX4_readLine_19 : decode cX4_readLine 19 = .ok (.aload_n 0, 1) := by decide +kernel
theorem dX4_readLine_20 : decode cX4_readLine 20 = .ok (.bipush (-63), 2) := by decide +kernel
theorem dX4_readLine_22 : decode cX4_readLine 22 = .ok (.invokevirtual 71, 3) := by decide +kernel
theorem dX4_readLine_25 : decode cX4_readLine 25 = .ok (.aload_n 0, 1) := by decide +kernel
theorem dX4_readLine_26 : decode cX4_readLine 26 = .ok (.iconst 0, 1) := by decide +kernel
theorem dX4_readLine_27 : decode cX4_readLine 27 = .ok (.invokevirtual 68, 3) := by decide +kernel
theorem dX4_readLine_30 : decode cX4_readLine 30 = .ok (.ifCond .ne 5, 3) := by decide +kernel
theorem dX4_readLine_33 : decode cX4_readLine 33 = .ok (.iconst 0, 1) := by decide +kernel
theorem dX4_readLine_34 : decode cX4_readLine 34 = .ok (.ireturn, 1) := by decide +kernel
theorem dX4_readLine_35 : decode cX4_readLine 35 = .ok (.aload_n 0, 1) := by decide +kernel
theorem dX4_readLine_36 : decode cX4_readLine 36 = .ok (.bipush (-59), 2) := by decide +kernel
theorem dX4_readLine_38 : decode cX4_readLine 38 = .ok (.invokevirtual 71, 3) := by decide +kernel
theorem dX4_readLine_41 : decode cX4_readLine 41 = .ok (.iconst 1, 1) := by decide +kernel
theorem dX4_readLine_42 : decode cX4_readLine 42 = .ok (.ireturn, 1) := by decide +kernel
theorem dX4_readEither_0 : decode cX4_readEither 0 = .ok (.aload_n 0, 1) := by decide +kernel
theorem dX4_readEither_1 : decode cX4_readEither 1 = .ok (.iload_n 1, 1) := by decide +kernel
theorem dX4_readEither_2 : decode cX4_readEither 2 = .ok (.invokevirtual 75, 3) := by decide +kernel
theorem dX4_readEither_5 : decode cX4_readEither 5 = .ok (.istore_n 2, 1) := by decide +kernel
theorem dX4_readEither_6 : decode cX4_readEither 6 = .ok (.iconst 0, 1) := by decide +kernel
theorem dX4_readEither_7 : decode cX4_readEither 7 = .ok (.istore_n 3, 1) := by decide +kernel
theorem dX4_readEither_8 : decode cX4_readEither 8 = .ok (.iload_n 3, 1) := by decide +kernel
theorem dX4_readEither_9 : decode cX4_readEither 9 = .ok (.bipush 120, 2) := by decide +kernel
theorem dX4_readEither_11 : decode cX4_readEither 11 = .ok (.if_icmp .ge 34, 3) := by decide +kernel
theorem dX4_readEither_14 : decode cX4_readEither 14 = .ok (.iload_n 2, 1) := by decide +kernel
theorem dX4_readEither_15 : decode cX4_readEither 15 = .ok (.ifCond .eq 30, 3) := by decide +kernel
theorem dX4_readEither_18 : decode cX4_readEither 18 = .ok (.aload_n 0, 1) := by decide +kernel
theorem dX4_readEither_19 : decode cX4_readEither 19 = .ok (.bipush 124, 2) := by decide +kernel
theorem dX4_readEither_21 : decode cX4_readEither 21 = .ok (.invokevirtual 64, 3) := by decide +kernel
theorem dX4_readEither_24 : decode cX4_readEither 24 = .ok (.ifCond .eq 21, 3) := by decide +kernel
theorem dX4_readEither_27 : decode cX4_readEither 27 = .ok (.aload_n 0, 1) := by decide +kernel
theorem dX4_readEither_28 : decode cX4_readEither 28 = .ok (.iload_n 1, 1) := by decide +kernel
theorem dX4_readEither_29 : decode cX4_readEither 29 = .ok (.invokevirtual 75, 3) := by decide +kernel
theorem dX4_readEither_32 : decode cX4_readEither 32 = .ok (.istore_n 2, 1) := by decide +kernel
theorem dX4_readEither_33 : decode cX4_readEither 33 = .ok (.aload_n 0, 1) := by decide +kernel
theorem dX4_readEither_34 : decode cX4_readEither 34 = .ok (.bipush (-124), 2) := by decide +kernel
theorem dX4_readEither_36 : decode cX4_readEither 36 = .ok (.invokevirtual 71, 3) := by decide +kernel
theorem dX4_readEither_39 : decode cX4_readEither 39 = .ok (.iinc 3 1, 3) := by decide +kernel
theorem dX4_readEither_42 : decode cX4_readEither 42 = .ok (.goto (-34), 3) := by decide +kernel
theorem dX4_readEither_45 : decode cX4_readEither 45 = .ok (.iload_n 2, 1) := by decide +kernel
theorem dX4_readEither_46 : decode cX4_readEither 46 = .ok (.ireturn, 1) := by decide +kernel
theorem dX4_readBoth_0 : decode cX4_readBoth 0 = .ok (.aload_n 0, 1) := by decide +kernel
theorem dX4_readBoth_1 : decode cX4_readBoth 1 = .ok (.iload_n 1, 1) := by decide +kernel
theorem dX4_readBoth_2 : decode cX4_readBoth 2 = .ok (.invokevirtual 78, 3) := by decide +kernel
theorem dX4_readBoth_5 : decode cX4_readBoth 5 = .ok (.istore_n 2, 1) := by decide +kernel
theorem dX4_readBoth_6 : decode cX4_readBoth 6 = .ok (.iconst 0, 1) := by decide +kernel
theorem dX4_readBoth_7 : decode cX4_readBoth 7 = .ok (.istore_n 3, 1) := by decide +kernel
theorem dX4_readBoth_8 : decode cX4_readBoth 8 = .ok (.iload_n 3, 1) := by decide +kernel
theorem dX4_readBoth_9 : decode cX4_readBoth 9 = .ok (.bipush 120, 2) := by decide +kernel
theorem dX4_readBoth_11 : decode cX4_readBoth 11 = .ok (.if_icmp .ge 34, 3) := by decide +kernel
theorem dX4_readBoth_14 : decode cX4_readBoth 14 = .ok (.iload_n 2, 1) := by decide +kernel
theorem dX4_readBoth_15 : decode cX4_readBoth 15 = .ok (.ifCond .eq 30, 3) := by decide +kernel
theorem dX4_readBoth_18 : decode cX4_readBoth 18 = .ok (.aload_n 0, 1) := by decide +kernel
theorem dX4_readBoth_19 : decode cX4_readBoth 19 = .ok (.bipush 38, 2) := by decide +kernel
theorem dX4_readBoth_21 : decode cX4_readBoth 21 = .ok (.invokevirtual 64, 3) := by decide +kernel
theorem dX4_readBoth_24 : decode cX4_readBoth 24 = .ok (.ifCond .eq 21, 3) := by decide +kernel
theorem dX4_readBoth_27 : decode cX4_readBoth 27 = .ok (.aload_n 0, 1) := by decide +kernel
theorem dX4_readBoth_28 : decode cX4_readBoth 28 = .ok (.iload_n 1, 1) := by decide +kernel
theorem dX4_readBoth_29 : decode cX4_readBoth 29 = .ok (.invokevirtual 78, 3) := by decide +kernel
theorem dX4_readBoth_32 : decode cX4_readBoth 32 = .ok (.istore_n 2, 1) := by decide +kernel
theorem dX4_readBoth_33 : decode cX4_readBoth 33 = .ok (.aload_n 0, 1) := by decide +kernel
theorem dX4_readBoth_34 : decode cX4_readBoth 34 = .ok (.bipush (-38), 2) := by decide +kernel
theorem dX4_readBoth_36 : decode cX4_readBoth 36 = .ok (.invokevirtual 71, 3) := by decide +kernel
theorem dX4_readBoth_39 : decode cX4_readBoth 39 = .ok (.iinc 3 1, 3) := by decide +kernel
theorem dX4_readBoth_42 : decode cX4_readBoth 42 = .ok (.goto (-34), 3) := by decide +kernel
theorem dX4_readBoth_45 : decode cX4_readBoth 45 = .ok (.iload_n 2, 1) := by decide +kernel
theorem dX4_readBoth_46 : decode cX4_readBoth 46 = .ok (.ireturn, 1) := by decide +kernel
theorem dX4_readCompared_0 : decode cX4_readCompared 0 = .ok (.aload_n 0, 1) := by decide +kernel
theorem dX4_readCompared_1 : decode cX4_readCompared 1 = .ok (.iload_n 1, 1) := by decide +kernel
theorem dX4_readCompared_2 : decode cX4_readCompared 2 = .ok (.invokevirtual 81, 3) := by decide +kernel
theorem dX4_readCompared_5 : decode cX4_readCompared 5 = .ok (.ifCond .ne 5, 3) := by decide +kernel
theorem dX4_readCompared_8 : decode cX4_readCompared 8 = .ok (.iconst 0, 1) := by decide +kernel
theorem dX4_readCompared_9 : decode cX4_readCompared 9 = .ok (.ireturn, 1) := by decide +kernel
theorem dX4_readCompared_10 : decode cX4_readCompared 10 = .ok (.aload_n 0, 1) := by decide +kernel
theorem dX4_readCompared_11 : decode cX4_readCompared 11 = .ok (.invokevirtual 84, 3) := by decide +kernel
theorem dX4_readCompared_14 : decode cX4_readCompared 14 = .ok (.istore_n 2, 1) := by decide +kernel
theorem dX4_readCompared_15 : decode cX4_readCompared 15 = .ok (.iload_n 2, 1) := by decide +kernel
theorem dX4_readCompared_16 : decode cX4_readCompared 16 = .ok (.bipush 60, 2) := by decide +kernel
theorem dX4_readCompared_18 : decode cX4_readCompared 18 = .ok (.if_icmp .eq 17, 3) := by decide +kernel
theorem dX4_readCompared_21 : decode cX4_readCompared 21 = .ok (.iload_n 2, 1) := by decide +kernel
theorem dX4_readCompared_22 : decode cX4_readCompared 22 = .ok (.bipush 61, 2) := by decide +kernel
theorem dX4_readCompared_24 : decode cX4_readCompared 24 = .ok (.if_icmp .eq 11, 3) := by decide +kernel
theorem dX4_readCompared_27 : decode cX4_readCompared 27 = .ok (.iload_n 2, 1) := by decide +kernel
theorem dX4_readCompared_28 : decode cX4_readCompared 28 = .ok (.bipush 62, 2) := by decide +kernel
theorem dX4_readCompared_30 : decode cX4_readCompared 30 = .ok (.if_icmp .eq 5, 3) := by decide +kernel
theorem dX4_readCompared_33 : decode cX4_readCompared 33 = .ok (.iconst 1, 1) := by decide +kernel
theorem dX4_readCompared_34 : decode cX4_readCompared 34 = .ok (.ireturn, 1) := by decide +kernel
theorem dX4_readCompared_35 : decode cX4_readCompared 35 = .ok (.aload_n 0, 1) := by decide +kernel
theorem dX4_readCompared_36 : decode cX4_readCompared 36 = .ok (.dup, 1) := by decide +kernel
theorem dX4_readCompared_37 : decode cX4_readCompared 37 = .ok (.getfield 47, 3) := by decide +kernel
theorem dX4_readCompared_40 : decode cX4_readCompared 40 = .ok (.iconst 1, 1) := by decide +kernel
theorem dX4_readCompared_41 : decode cX4_readCompared 41 = .ok (.iadd, 1) := by decide +kernel
theorem dX4_readCompared_42 : decode cX4_readCompared 42 = .ok (.putfield 47, 3) := by decide +kernel
theorem dX4_readCompared_45 : decode cX4_readCompared 45 = .ok (.aload_n 0, 1) := by decide +kernel
theorem dX4_readCompared_46 : decode cX4_readCompared 46 = .ok (.iload_n 1, 1) := by decide +kernel
theorem dX4_readCompared_47 : decode cX4_readCompared 47 = .ok (.invokevirtual 81, 3) := by decide +kernel
theorem dX4_readCompared_50 : decode cX4_readCompared 50 = .ok (.istore_n 3, 1) := by decide +kernel
theorem dX4_readCompared_51 : decode cX4_readCompared 51 = .ok (.aload_n 0, 1) := by decide +kernel
theorem dX4_readCompared_52 : decode cX4_readCompared 52 = .ok (.iload_n 2, 1) := by decide +kernel
theorem dX4_readCompared_53 : decode cX4_readCompared 53 = .ok (.ineg, 1) := by decide +kernel
theorem dX4_readCompared_54 : decode cX4_readCompared 54 = .ok (.invokevirtual 71, 3) := by decide +kernel
theorem dX4_readCompared_57 : decode cX4_readCompared 57 = .ok (.iload_n 3, 1) := by decide +kernel
theorem dX4_readCompared_58 : decode cX4_readCompared 58 = .ok (.ireturn, 1) := by decide +kernel
theorem dX4_readSum_0 : decode cX4_readSum 0 = .ok (.aload_n 0, 1) := by decide +kernel
theorem dX4_readSum_1 : decode cX4_readSum 1 = .ok (.iload_n 1, 1) := by decide +kernel
theorem dX4_readSum_2 : decode cX4_readSum 2 = .ok (.invokevirtual 87, 3) := by decide +kernel
theorem dX4_readSum_5 : decode cX4_readSum 5 = .ok (.istore_n 2, 1) := by decide +kernel
theorem dX4_readSum_6 : decode cX4_readSum 6 = .ok (.iconst 0, 1) := by decide +kernel
theorem dX4_readSum_7 : decode cX4_readSum 7 = .ok (.istore_n 3, 1) := by decide +kernel
theorem dX4_readSum_8 : decode cX4_readSum 8 = .ok (.iload_n 3, 1) := by decide +kernel
theorem dX4_readSum_9 : decode cX4_readSum 9 = .ok (.bipush 120, 2) := by decide +kernel
theorem dX4_readSum_11 : decode cX4_readSum 11 = .ok (.if_icmp .ge 60, 3) := by decide +kernel
theorem dX4_readSum_14 : decode cX4_readSum 14 = .ok (.iload_n 2, 1) := by decide +kernel
theorem dX4_readSum_15 : decode cX4_readSum 15 = .ok (.ifCond .eq 56, 3) := by decide +kernel
theorem dX4_readSum_18 : decode cX4_readSum 18 = .ok (.aload_n 0, 1) := by decide +kernel
theorem dX4_readSum_19 : decode cX4_readSum 19 = .ok (.invokevirtual 84, 3) := by decide +kernel
theorem dX4_readSum_22 : decode cX4_readSum 22 = .ok (.bipush 43, 2) := by decide +kernel
theorem dX4_readSum_24 : decode cX4_readSum 24 = .ok (.if_icmp .eq 12, 3) := by decide +kernel
theorem dX4_readSum_27 : decode cX4_readSum 27 = .ok (.aload_n 0, 1) := by decide +kernel
theorem dX4_readSum_28 : decode cX4_readSum 28 = .ok (.invokevirtual 84, 3) := by decide +kernel
theorem dX4_readSum_31 : decode cX4_readSum 31 = .ok (.bipush 45, 2) := by decide +kernel
theorem dX4_readSum_33 : decode cX4_readSum 33 = .ok (.if_icmp .ne 38, 3) := by decide +kernel
theorem dX4_readSum_36 : decode cX4_readSum 36 = .ok (.aload_n 0, 1) := by decide +kernel
theorem dX4_readSum_37 : decode cX4_readSum 37 = .ok (.invokevirtual 84, 3) := by decide +kernel
theorem dX4_readSum_40 : decode cX4_readSum 40 = .ok (.istore 4, 2) := by decide +kernel
theorem dX4_readSum_42 : decode cX4_readSum 42 = .ok (.aload_n 0, 1) := by decide +kernel
theorem dX4_readSum_43 : decode cX4_readSum 43 = .ok (.dup, 1) := by decide +kernel
theorem dX4_readSum_44 : decode cX4_readSum 44 = .ok (.getfield 47, 3) := by decide +kernel
theorem dX4_readSum_47 : decode cX4_readSum 47 = .ok (.iconst 1, 1) := by decide +kernel
theorem dX4_readSum_48 : decode cX4_readSum 48 = .ok (.iadd, 1) := by decide +kernel
theorem dX4_readSum_49 : decode cX4_readSum 49 = .ok (.putfield 47, 3) := by decide +kernel
theorem dX4_readSum_52 : decode cX4_readSum 52 = .ok (.aload_n 0, 1) := by decide +kernel
theorem dX4_readSum_53 : decode cX4_readSum 53 = .ok (.iload_n 1, 1) := by decide +kernel
theorem dX4_readSum_54 : decode cX4_readSum 54 = .ok (.invokevirtual 87, 3) := by decide +kernel
theorem dX4_readSum_57 : decode cX4_readSum 57 = .ok (.istore_n 2, 1) := by decide +kernel
theorem dX4_readSum_58 : decode cX4_readSum 58 = .ok (.aload_n 0, 1) := by decide +kernel
theorem dX4_readSum_59 : decode cX4_readSum 59 = .ok (.iload 4, 2) := by decide +kernel
theorem dX4_readSum_61 : decode cX4_readSum 61 = .ok (.ineg, 1) := by decide +kernel
theorem dX4_readSum_62 : decode cX4_readSum 62 = .ok (.invokevirtual 71, 3) := by decide +kernel
theorem dX4_readSum_65 : decode cX4_readSum 65 = .ok (.iinc 3 1, 3) := by decide +kernel
theorem dX4_readSum_68 : decode cX4_readSum 68 = .ok (.goto (-60), 3) := by decide +kernel
theorem dX4_readSum_71 : decode cX4_readSum 71 = .ok (.iload_n 2, 1) := by decide +kernel
theorem dX4_readSum_72 : decode cX4_readSum 72 = .ok (.ireturn, 1) := by decide +kernel
theorem dX4_readProduct_0 : decode cX4_readProduct 0 = .ok (.aload_n 0, 1) := by decide +kernel
theorem dX4_readProduct_1 : decode cX4_readProduct 1 = .ok (.iload_n 1, 1) := by decide +kernel
theorem dX4_readProduct_2 : decode cX4_readProduct 2 = .ok (.invokevirtual 90, 3) := by decide +kernel
theorem dX4_readProduct_5 : decode cX4_readProduct 5 = .ok (.istore_n 2, 1) := by decide +kernel
theorem dX4_readProduct_6 : decode cX4_readProduct 6 = .ok (.iconst 0, 1) := by decide +kernel
theorem dX4_readProduct_7 : decode cX4_readProduct 7 = .ok (.istore_n 3, 1) := by decide +kernel
theorem dX4_readProduct_8 : decode cX4_readProduct 8 = .ok (.iload_n 3, 1) := by decide +kernel
theorem dX4_readProduct_9 : decode cX4_readProduct 9 = .ok (.bipush 120, 2) := by decide +kernel
theorem dX4_readProduct_11 : decode cX4_readProduct 11 = .ok (.if_icmp .ge 69, 3) := by decide +kernel
theorem dX4_readProduct_14 : decode cX4_readProduct 14 = .ok (.iload_n 2, 1) := by decide +kernel
theorem dX4_readProduct_15 : decode cX4_readProduct 15 = .ok (.ifCond .eq 65, 3) := by decide +kernel
theorem dX4_readProduct_18 : decode cX4_readProduct 18 = .ok (.aload_n 0, 1) := by decide +kernel
theorem dX4_readProduct_19 : decode cX4_readProduct 19 = .ok (.invokevirtual 84, 3) := by decide +kernel
theorem dX4_readProduct_22 : decode cX4_readProduct 22 = .ok (.bipush 42, 2) := by decide +kernel
theorem dX4_readProduct_24 : decode cX4_readProduct 24 = .ok (.if_icmp .eq 21, 3) := by decide +kernel
theorem dX4_readProduct_27 : decode cX4_readProduct 27 = .ok (.aload_n 0, 1) := by decide +kernel
theorem dX4_readProduct_28 : decode cX4_readProduct 28 = .ok (.invokevirtual 84, 3) := by decide +kernel
theorem dX4_readProduct_31 : decode cX4_readProduct 31 = .ok (.bipush 47, 2) := by decide +kernel
theorem dX4_readProduct_33 : decode cX4_readProduct 33 = .ok (.if_icmp .eq 12, 3) := by decide +kernel
theorem dX4_readProduct_36 : decode cX4_readProduct 36 = .ok (.aload_n 0, 1) := by decide +kernel
theorem dX4_readProduct_37 : decode cX4_readProduct 37 = .ok (.invokevirtual 84, 3) := by decide +kernel
theorem dX4_readProduct_40 : decode cX4_readProduct 40 = .ok (.bipush 37, 2) := by decide +kernel
theorem dX4_readProduct_42 : decode cX4_readProduct 42 = .ok (.if_icmp .ne 38, 3) := by decide +kernel
theorem dX4_readProduct_45 : decode cX4_readProduct 45 = .ok (.aload_n 0, 1) := by decide +kernel
theorem dX4_readProduct_46 : decode cX4_readProduct 46 = .ok (.invokevirtual 84, 3) := by decide +kernel
theorem dX4_readProduct_49 : decode cX4_readProduct 49 = .ok (.istore 4, 2) := by decide +kernel
theorem dX4_readProduct_51 : decode cX4_readProduct 51 = .ok (.aload_n 0, 1) := by decide +kernel
theorem dX4_readProduct_52 : decode cX4_readProduct 52 = .ok (.dup, 1) := by decide +kernel
theorem dX4_readProduct_53 : decode cX4_readProduct 53 = .ok (.getfield 47, 3) := by decide +kernel
theorem dX4_readProduct_56 : decode cX4_readProduct 56 = .ok (.iconst 1, 1) := by decide +kernel
theorem dX4_readProduct_57 : decode cX4_readProduct 57 = .ok (.iadd, 1) := by decide +kernel
theorem dX4_readProduct_58 : decode cX4_readProduct 58 = .ok (.putfield 47, 3) := by decide +kernel
theorem dX4_readProduct_61 : decode cX4_readProduct 61 = .ok (.aload_n 0, 1) := by decide +kernel
theorem dX4_readProduct_62 : decode cX4_readProduct 62 = .ok (.iload_n 1, 1) := by decide +kernel
theorem dX4_readProduct_63 : decode cX4_readProduct 63 = .ok (.invokevirtual 90, 3) := by decide +kernel
theorem dX4_readProduct_66 : decode cX4_readProduct 66 = .ok (.istore_n 2, 1) := by decide +kernel
theorem dX4_readProduct_67 : decode cX4_readProduct 67 = .ok (.aload_n 0, 1) := by decide +kernel
theorem dX4_readProduct_68 : decode cX4_readProduct 68 = .ok (.iload 4, 2) := by decide +kernel
theorem dX4_readProduct_70 : decode cX4_readProduct 70 = .ok (.ineg, 1) := by decide +kernel
theorem dX4_readProduct_71 : decode cX4_readProduct 71 = .ok (.invokevirtual 71, 3) := by decide +kernel
theorem dX4_readProduct_74 : decode cX4_readProduct 74 = .ok (.iinc 3 1, 3) := by decide +kernel
theorem dX4_readProduct_77 : decode cX4_readProduct 77 = .ok (.goto (-69), 3) := by decide +kernel
theorem dX4_readProduct_80 : decode cX4_readProduct 80 = .ok (.iload_n 2, 1) := by decide +kernel
theorem dX4_readProduct_81 : decode cX4_readProduct 81 = .ok (.ireturn, 1) := by decide +kernel
theorem dX4_readOperand_0 : decode cX4_readOperand 0 = .ok (.aload_n 0, 1) := by decide +kernel
theorem dX4_readOperand_1 : decode cX4_readOperand 1 = .ok (.invokevirtual 84, 3) := by decide +kernel
theorem dX4_readOperand_4 : decode cX4_readOperand 4 = .ok (.istore_n 2, 1) := by decide +kernel
theorem dX4_readOperand_5 : decode cX4_readOperand 5 = .ok (.iload_n 2, 1) := by decide +kernel
theorem dX4_readOperand_6 : decode cX4_readOperand 6 = .ok (.invokestatic 93, 3) := by decide +kernel
theorem dX4_readOperand_9 : decode cX4_readOperand 9 = .ok (.ifCond .eq 9, 3) := by decide +kernel
theorem dX4_readOperand_12 : decode cX4_readOperand 12 = .ok (.aload_n 0, 1) := by decide +kernel
theorem dX4_readOperand_13 : decode cX4_readOperand 13 = .ok (.invokevirtual 96, 3) := by decide +kernel
theorem dX4_readOperand_16 : decode cX4_readOperand 16 = .ok (.iconst 1, 1) := by decide +kernel
theorem dX4_readOperand_17 : decode cX4_readOperand 17 = .ok (.ireturn, 1) := by decide +kernel
theorem dX4_readOperand_18 : decode cX4_readOperand 18 = .ok (.iload_n 2, 1) := by decide +kernel
theorem dX4_readOperand_19 : decode cX4_readOperand 19 = .ok (.ifCond .ge 7, 3) := by decide +kernel
theorem dX4_readOperand_22 : decode cX4_readOperand 22 = .ok (.iconst (-1), 1) := by decide +kernel
theorem dX4_readOperand_23 : decode cX4_readOperand 23 = .ok (.goto 10, 3) := by decide +kernel
theorem dX4_readOperand_26 : decode cX4_readOperand 26 = .ok (.ldc 21, 2) := by decide +kernel
theorem dX4_readOperand_28 : decode cX4_readOperand 28 = .ok (.iload_n 2, 1) := by decide +kernel
theorem dX4_readOperand_29 : decode cX4_readOperand 29 = .ok (.i2c, 1) := by decide +kernel
theorem dX4_readOperand_30 : decode cX4_readOperand 30 = .ok (.invokevirtual 99, 3) := by decide +kernel
theorem dX4_readOperand_33 : decode cX4_readOperand 33 = .ok (.istore_n 3, 1) := by decide +kernel
theorem dX4_readOperand_34 : decode cX4_readOperand 34 = .ok (.iload_n 3, 1) := by decide +kernel
theorem dX4_readOperand_35 : decode cX4_readOperand 35 = .ok (.ifCond .lt 22, 3) := by decide +kernel
theorem dX4_readOperand_38 : decode cX4_readOperand 38 = .ok (.aload_n 0, 1) := by decide +kernel
theorem dX4_readOperand_39 : decode cX4_readOperand 39 = .ok (.dup, 1) := by decide +kernel
theorem dX4_readOperand_40 : decode cX4_readOperand 40 = .ok (.getfield 47, 3) := by decide +kernel
theorem dX4_readOperand_43 : decode cX4_readOperand 43 = .ok (.iconst 1, 1) := by decide +kernel
theorem dX4_readOperand_44 : decode cX4_readOperand 44 = .ok (.iadd, 1) := by decide +kernel
theorem dX4_readOperand_45 : decode cX4_readOperand 45 = .ok (.putfield 47, 3) := by decide +kernel
theorem dX4_readOperand_48 : decode cX4_readOperand 48 = .ok (.aload_n 0, 1) := by decide +kernel
theorem dX4_readOperand_49 : decode cX4_readOperand 49 = .ok (.iconst (-1), 1) := by decide +kernel
theorem dX4_readOperand_50 : decode cX4_readOperand 50 = .ok (.iload_n 3, 1) := by decide +kernel
theorem dX4_readOperand_51 : decode cX4_readOperand 51 = .ok (.isub, 1) := by decide +kernel
theorem dX4_readOperand_52 : decode cX4_readOperand 52 = .ok (.invokevirtual 71, 3) := by decide +kernel
theorem dX4_readOperand_55 : decode cX4_readOperand 55 = .ok (.iconst 1, 1) := by decide +kernel
theorem dX4_readOperand_56 : decode cX4_readOperand 56 = .ok (.ireturn, 1) := by decide +kernel
theorem dX4_readOperand_57 : decode cX4_readOperand 57 = .ok (.iload_n 1, 1) := by decide +kernel
theorem dX4_readOperand_58 : decode cX4_readOperand 58 = .ok (.bipush 6, 2) := by decide +kernel
theorem dX4_readOperand_60 : decode cX4_readOperand 60 = .ok (.if_icmp .ge 21, 3) := by decide +kernel
theorem dX4_readOperand_63 : decode cX4_readOperand 63 = .ok (.iload_n 2, 1) := by decide +kernel
theorem dX4_readOperand_64 : decode cX4_readOperand 64 = .ok (.bipush 40, 2) := by decide +kernel
theorem dX4_readOperand_66 : decode cX4_readOperand 66 = .ok (.if_icmp .eq 17, 3) := by decide +kernel
theorem dX4_readOperand_69 : decode cX4_readOperand 69 = .ok (.iload_n 2, 1) := by decide +kernel
theorem dX4_readOperand_70 : decode cX4_readOperand 70 = .ok (.bipush 33, 2) := by decide +kernel
theorem dX4_readOperand_72 : decode cX4_readOperand 72 = .ok (.if_icmp .eq 11, 3) := by decide +kernel
theorem dX4_readOperand_75 : decode cX4_readOperand 75 = .ok (.iload_n 2, 1) := by decide +kernel
theorem dX4_readOperand_76 : decode cX4_readOperand 76 = .ok (.bipush 45, 2) := by decide +kernel
theorem dX4_readOperand_78 : decode cX4_readOperand 78 = .ok (.if_icmp .eq 5, 3) := by decide +kernel
theorem dX4_readOperand_81 : decode cX4_readOperand 81 = .ok (.iconst 0, 1) := by decide +kernel
theorem dX4_readOperand_82 : decode cX4_readOperand 82 = .ok (.ireturn, 1) := by decide +kernel
theorem dX4_readOperand_83 : decode cX4_readOperand 83 = .ok (.aload_n 0, 1) := by decide +kernel
theorem dX4_readOperand_84 : decode cX4_readOperand 84 = .ok (.dup, 1) := by decide +kernel
theorem dX4_readOperand_85 : decode cX4_readOperand 85 = .ok (.getfield 47, 3) := by decide +kernel
theorem dX4_readOperand_88 : decode cX4_readOperand 88 = .ok (.iconst 1, 1) := by decide +kernel
theorem dX4_readOperand_89 : decode cX4_readOperand 89 = .ok (.iadd, 1) := by decide +kernel
theorem dX4_readOperand_90 : decode cX4_readOperand 90 = .ok (.putfield 47, 3) := by decide +kernel
theorem dX4_readOperand_93 : decode cX4_readOperand 93 = .ok (.iload_n 2, 1) := by decide +kernel
theorem dX4_readOperand_94 : decode cX4_readOperand 94 = .ok (.bipush 40, 2) := by decide +kernel
theorem dX4_readOperand_96 : decode cX4_readOperand 96 = .ok (.if_icmp .ne 28, 3) := by decide +kernel
theorem dX4_readOperand_99 : decode cX4_readOperand 99 = .ok (.aload_n 0, 1) := by decide +kernel
theorem dX4_readOperand_100 : decode cX4_readOperand 100 = .ok (.iload_n 1, 1) := by decide +kernel
theorem dX4_readOperand_101 : decode cX4_readOperand 101 = .ok (.iconst 1, 1) := by decide +kernel
theorem dX4_readOperand_102 : decode cX4_readOperand 102 = .ok (.iadd, 1) := by decide +kernel
theorem dX4_readOperand_103 : decode cX4_readOperand 103 = .ok (.invokevirtual 68, 3) := by decide +kernel
theorem dX4_readOperand_106 : decode cX4_readOperand 106 = .ok (.ifCond .eq 16, 3) := by decide +kernel
theorem dX4_readOperand_109 : decode cX4_readOperand 109 = .ok (.aload_n 0, 1) := by decide +kernel
theorem dX4_readOperand_110 : decode cX4_readOperand 110 = .ok (.bipush 41, 2) := by decide +kernel
theorem dX4_readOperand_112 : decode cX4_readOperand 112 = .ok (.invokevirtual 64, 3) := by decide +kernel
theorem dX4_readOperand_115 : decode cX4_readOperand 115 = .ok (.ifCond .eq 7, 3) := by decide +kernel
theorem dX4_readOperand_118 : decode cX4_readOperand 118 = .ok (.iconst 1, 1) := by decide +kernel
theorem dX4_readOperand_119 : decode cX4_readOperand 119 = .ok (.goto 4, 3) := by decide +kernel
theorem dX4_readOperand_122 : decode cX4_readOperand 122 = .ok (.iconst 0, 1) := by decide +kernel
theorem dX4_readOperand_123 : decode cX4_readOperand 123 = .ok (.ireturn, 1) := by decide +kernel
theorem dX4_readOperand_124 : decode cX4_readOperand 124 = .ok (.aload_n 0, 1) := by decide +kernel
theorem dX4_readOperand_125 : decode cX4_readOperand 125 = .ok (.iload_n 1, 1) := by decide +kernel
theorem dX4_readOperand_126 : decode cX4_readOperand 126 = .ok (.iconst 1, 1) := by decide +kernel
theorem dX4_readOperand_127 : decode cX4_readOperand 127 = .ok (.iadd, 1) := by decide +kernel
theorem dX4_readOperand_128 : decode cX4_readOperand 128 = .ok (.invokevirtual 90, 3) := by decide +kernel
theorem dX4_readOperand_131 : decode cX4_readOperand 131 = .ok (.istore 4, 2) := by decide +kernel
theorem dX4_readOperand_133 : decode cX4_readOperand 133 = .ok (.aload_n 0, 1) := by decide +kernel
theorem dX4_readOperand_134 : decode cX4_readOperand 134 = .ok (.iload_n 2, 1) := by decide +kernel
theorem dX4_readOperand_135 : decode cX4_readOperand 135 = .ok (.bipush 45, 2) := by decide +kernel
theorem dX4_readOperand_137 : decode cX4_readOperand 137 = .ok (.if_icmp .ne 8, 3) := by decide +kernel
theorem dX4_readOperand_140 : decode cX4_readOperand 140 = .ok (.bipush (-126), 2) := by decide +kernel
theorem dX4_readOperand_142 : decode cX4_readOperand 142 = .ok (.goto 5, 3) := by decide +kernel
theorem dX4_readOperand_145 : decode cX4_readOperand 145 = .ok (.iload_n 2, 1) := by decide +kernel
theorem dX4_readOperand_146 : decode cX4_readOperand 146 = .ok (.ineg, 1) := by decide +kernel
theorem dX4_readOperand_147 : decode cX4_readOperand 147 = .ok (.invokevirtual 71, 3) := by decide +kernel
theorem dX4_readOperand_150 : decode cX4_readOperand 150 = .ok (.iload 4, 2) := by decide +kernel
theorem dX4_readOperand_152 : decode cX4_readOperand 152 = .ok (.ireturn, 1) := by decide +kernel
theorem dX4_readNumber_0 : decode cX4_readNumber 0 = .ok (.iconst 0, 1) := by decide +kernel
theorem dX4_readNumber_1 : decode cX4_readNumber 1 = .ok (.istore_n 1, 1) := by decide +kernel
theorem dX4_readNumber_2 : decode cX4_readNumber 2 = .ok (.iconst 0, 1) := by decide +kernel
theorem dX4_readNumber_3 : decode cX4_readNumber 3 = .ok (.istore_n 2, 1) := by decide +kernel
theorem dX4_readNumber_4 : decode cX4_readNumber 4 = .ok (.iload_n 2, 1) := by decide +kernel
theorem dX4_readNumber_5 : decode cX4_readNumber 5 = .ok (.iconst 4, 1) := by decide +kernel
theorem dX4_readNumber_6 : decode cX4_readNumber 6 = .ok (.if_icmp .ge 42, 3) := by decide +kernel
theorem dX4_readNumber_9 : decode cX4_readNumber 9 = .ok (.aload_n 0, 1) := by decide +kernel
theorem dX4_readNumber_10 : decode cX4_readNumber 10 = .ok (.invokevirtual 84, 3) := by decide +kernel
theorem dX4_readNumber_13 : decode cX4_readNumber 13 = .ok (.invokestatic 93, 3) := by decide +kernel
theorem dX4_readNumber_16 : decode cX4_readNumber 16 = .ok (.ifCond .eq 32, 3) := by decide +kernel
theorem dX4_readNumber_19 : decode cX4_readNumber 19 = .ok (.iload_n 1, 1) := by decide +kernel
theorem dX4_readNumber_20 : decode cX4_readNumber 20 = .ok (.bipush 10, 2) := by decide +kernel
theorem dX4_readNumber_22 : decode cX4_readNumber 22 = .ok (.imul, 1) := by decide +kernel
theorem dX4_readNumber_23 : decode cX4_readNumber 23 = .ok (.aload_n 0, 1) := by decide +kernel
theorem dX4_readNumber_24 : decode cX4_readNumber 24 = .ok (.invokevirtual 84, 3) := by decide +kernel
theorem dX4_readNumber_27 : decode cX4_readNumber 27 = .ok (.iadd, 1) := by decide +kernel
theorem dX4_readNumber_28 : decode cX4_readNumber 28 = .ok (.bipush 48, 2) := by decide +kernel
theorem dX4_readNumber_30 : decode cX4_readNumber 30 = .ok (.isub, 1) := by decide +kernel
theorem dX4_readNumber_31 : decode cX4_readNumber 31 = .ok (.istore_n 1, 1) := by decide +kernel
theorem dX4_readNumber_32 : decode cX4_readNumber 32 = .ok (.aload_n 0, 1) := by decide +kernel
theorem dX4_readNumber_33 : decode cX4_readNumber 33 = .ok (.dup, 1) := by decide +kernel
theorem dX4_readNumber_34 : decode cX4_readNumber 34 = .ok (.getfield 47, 3) := by decide +kernel
theorem dX4_readNumber_37 : decode cX4_readNumber 37 = .ok (.iconst 1, 1) := by decide +kernel
theorem dX4_readNumber_38 : decode cX4_readNumber 38 = .ok (.iadd, 1) := by decide +kernel
theorem dX4_readNumber_39 : decode cX4_readNumber 39 = .ok (.putfield 47, 3) := by decide +kernel
theorem dX4_readNumber_42 : decode cX4_readNumber 42 = .ok (.iinc 2 1, 3) := by decide +kernel
theorem dX4_readNumber_45 : decode cX4_readNumber 45 = .ok (.goto (-41), 3) := by decide +kernel
theorem dX4_readNumber_48 : decode cX4_readNumber 48 = .ok (.aload_n 0, 1) := by decide +kernel
theorem dX4_readNumber_49 : decode cX4_readNumber 49 = .ok (.iload_n 1, 1) := by decide +kernel
theorem dX4_readNumber_50 : decode cX4_readNumber 50 = .ok (.invokevirtual 71, 3) := by decide +kernel
theorem dX4_readNumber_53 : decode cX4_readNumber 53 = .ok (.return_, 1) := by decide +kernel
theorem dX4_isDigit_0 : decode cX4_isDigit 0 = .ok (.iload_n 0, 1) := by decide +kernel
theorem dX4_isDigit_1 : decode cX4_isDigit 1 = .ok (.bipush 48, 2) := by decide +kernel
theorem dX4_isDigit_3 : decode cX4_isDigit 3 = .ok (.if_icmp .lt 13, 3) := by decide +kernel
theorem dX4_isDigit_6 : decode cX4_isDigit 6 = .ok (.iload_n 0, 1) := by decide +kernel
theorem dX4_isDigit_7 : decode cX4_isDigit 7 = .ok (.bipush 57, 2) := by decide +kernel
theorem dX4_isDigit_9 : decode cX4_isDigit 9 = .ok (.if_icmp .gt 7, 3) := by decide +kernel
theorem dX4_isDigit_12 : decode cX4_isDigit 12 = .ok (.iconst 1, 1) := by decide +kernel
theorem dX4_isDigit_13 : decode cX4_isDigit 13 = .ok (.goto 4, 3) := by decide +kernel
theorem dX4_isDigit_16 : decode cX4_isDigit 16 = .ok (.iconst 0, 1) := by decide +kernel
theorem dX4_isDigit_17 : decode cX4_isDigit 17 = .ok (.ireturn, 1) := by decide +kernel
theorem dX4_next_0 : decode cX4_next 0 = .ok (.aload_n 0, 1) := by decide +kernel
theorem dX4_next_1 : decode cX4_next 1 = .ok (.getfield 47, 3) := by decide +kernel
theorem dX4_next_4 : decode cX4_next 4 = .ok (.ifCond .lt 35, 3) := by decide +kernel
theorem dX4_next_7 : decode cX4_next 7 = .ok (.aload_n 0, 1) := by decide +kernel
theorem dX4_next_8 : decode cX4_next 8 = .ok (.getfield 47, 3) := by decide +kernel
theorem dX4_next_11 : decode cX4_next 11 = .ok (.aload_n 0, 1) := by decide +kernel
theorem dX4_next_12 : decode cX4_next 12 = .ok (.getfield 39, 3) := by decide +kernel
theorem dX4_next_15 : decode cX4_next 15 = .ok (.if_icmp .ge 24, 3) := by decide +kernel
theorem dX4_next_18 : decode cX4_next 18 = .ok (.aload_n 0, 1) := by decide +kernel
theorem dX4_next_19 : decode cX4_next 19 = .ok (.getfield 47, 3) := by decide +kernel
theorem dX4_next_22 : decode cX4_next 22 = .ok (.bipush 120, 2) := by decide +kernel
theorem dX4_next_24 : decode cX4_next 24 = .ok (.if_icmp .ge 15, 3) := by decide +kernel
theorem dX4_next_27 : decode cX4_next 27 = .ok (.aload_n 0, 1) := by decide +kernel
theorem dX4_next_28 : decode cX4_next 28 = .ok (.getfield 11, 3) := by decide +kernel
theorem dX4_next_31 : decode cX4_next 31 = .ok (.aload_n 0, 1) := by decide +kernel
theorem dX4_next_32 : decode cX4_next 32 = .ok (.getfield 47, 3) := by decide +kernel
theorem dX4_next_35 : decode cX4_next 35 = .ok (.iaload, 1) := by decide +kernel
theorem dX4_next_36 : decode cX4_next 36 = .ok (.goto 4, 3) := by decide +kernel
theorem dX4_next_39 : decode cX4_next 39 = .ok (.iconst (-1), 1) := by decide +kernel
theorem dX4_next_40 : decode cX4_next 40 = .ok (.ireturn, 1) := by decide +kernel
theorem dX4_takes_0 : decode cX4_takes 0 = .ok (.aload_n 0, 1) := by decide +kernel
theorem dX4_takes_1 : decode cX4_takes 1 = .ok (.invokevirtual 84, 3) := by decide +kernel
theorem dX4_takes_4 : decode cX4_takes 4 = .ok (.iload_n 1, 1) := by decide +kernel
theorem dX4_takes_5 : decode cX4_takes 5 = .ok (.if_icmp .eq 5, 3) := by decide +kernel
theorem dX4_takes_8 : decode cX4_takes 8 = .ok (.iconst 0, 1) := by decide +kernel
theorem dX4_takes_9 : decode cX4_takes 9 = .ok (.ireturn, 1) := by decide +kernel
theorem dX4_takes_10 : decode cX4_takes 10 = .ok (.aload_n 0, 1) := by decide +kernel
theorem dX4_takes_11 : decode cX4_takes 11 = .ok (.dup, 1) := by decide +kernel
theorem dX4_takes_12 : decode cX4_takes 12 = .ok (.getfield 47, 3) := by decide +kernel
theorem dX4_takes_15 : decode cX4_takes 15 = .ok (.iconst 1, 1) := by decide +kernel
theorem dX4_takes_16 : decode cX4_takes 16 = .ok (.iadd, 1) := by decide +kernel
theorem dX4_takes_17 : decode cX4_takes 17 = .ok (.putfield 47, 3) := by decide +kernel
theorem dX4_takes_20 : decode cX4_takes 20 = .ok (.iconst 1, 1) := by decide +kernel
theorem dX4_takes_21 : decode cX4_takes 21 = .ok (.ireturn, 1) := by decide +kernel
theorem dX4_emit_0 : decode cX4_emit 0 = .ok (.aload_n 0, 1) := by decide +kernel
theorem dX4_emit_1 : decode cX4_emit 1 = .ok (.getfield 50, 3) := by decide +kernel
theorem dX4_emit_4 : decode cX4_emit 4 = .ok (.ifCond .lt 32, 3) := by decide +kernel
theorem dX4_emit_7 : decode cX4_emit 7 = .ok (.aload_n 0, 1) := by decide +kernel
theorem dX4_emit_8 : decode cX4_emit 8 = .ok (.getfield 50, 3) := by decide +kernel
theorem dX4_emit_11 : decode cX4_emit 11 = .ok (.aload_n 0, 1) := by decide +kernel
theorem dX4_emit_12 : decode cX4_emit 12 = .ok (.getfield 18, 3) := by decide +kernel
theorem dX4_emit_15 : decode cX4_emit 15 = .ok (.arraylength, 1) := by decide +kernel
theorem dX4_emit_16 : decode cX4_emit 16 = .ok (.if_icmp .ge 20, 3) := by decide +kernel
theorem dX4_emit_19 : decode cX4_emit 19 = .ok (.aload_n 0, 1) := by decide +kernel
theorem dX4_emit_20 : decode cX4_emit 20 = .ok (.getfield 18, 3) := by decide +kernel
theorem dX4_emit_23 : decode cX4_emit 23 = .ok (.aload_n 0, 1) := by decide +kernel
theorem dX4_emit_24 : decode cX4_emit 24 = .ok (.dup, 1) := by decide +kernel
theorem dX4_emit_25 : decode cX4_emit 25 = .ok (.getfield 50, 3) := by decide +kernel
theorem dX4_emit_28 : decode cX4_emit 28 = .ok (.dup_x1, 1) := by decide +kernel
theorem dX4_emit_29 : decode cX4_emit 29 = .ok (.iconst 1, 1) := by decide +kernel
theorem dX4_emit_30 : decode cX4_emit 30 = .ok (.iadd, 1) := by decide +kernel
theorem dX4_emit_31 : decode cX4_emit 31 = .ok (.putfield 50, 3) := by decide +kernel
theorem dX4_emit_34 : decode cX4_emit 34 = .ok (.iload_n 1, 1) := by decide +kernel
theorem dX4_emit_35 : decode cX4_emit 35 = .ok (.iastore, 1) := by decide +kernel
theorem dX4_emit_36 : decode cX4_emit 36 = .ok (.return_, 1) := by decide +kernel
theorem dX4_priceOf_0 : decode cX4_priceOf 0 = .ok (.aload_n 0, 1) := by decide +kernel
theorem dX4_priceOf_1 : decode cX4_priceOf 1 = .ok (.getfield 35, 3) := by decide +kernel
theorem dX4_priceOf_4 : decode cX4_priceOf 4 = .ok (.iload_n 1, 1) := by decide +kernel
theorem dX4_priceOf_5 : decode cX4_priceOf 5 = .ok (.iconst 0, 1) := by decide +kernel
theorem dX4_priceOf_6 : decode cX4_priceOf 6 = .ok (.invokevirtual 103, 3) := by decide +kernel
theorem dX4_priceOf_9 : decode cX4_priceOf 9 = .ok (.istore 4, 2) := by decide +kernel
theorem dX4_priceOf_11 : decode cX4_priceOf 11 = .ok (.aload_n 0, 1) := by decide +kernel
theorem dX4_priceOf_12 : decode cX4_priceOf 12 = .ok (.getfield 35, 3) := by decide +kernel
theorem dX4_priceOf_15 : decode cX4_priceOf 15 = .ok (.iconst 0, 1) := by decide +kernel
theorem dX4_priceOf_16 : decode cX4_priceOf 16 = .ok (.bipush 7, 2) := by decide +kernel
theorem dX4_priceOf_18 : decode cX4_priceOf 18 = .ok (.invokevirtual 103, 3) := by decide +kernel
theorem dX4_priceOf_21 : decode cX4_priceOf 21 = .ok (.istore 5, 2) := by decide +kernel
theorem dX4_priceOf_23 : decode cX4_priceOf 23 = .ok (.aload_n 0, 1) := by decide +kernel
theorem dX4_priceOf_24 : decode cX4_priceOf 24 = .ok (.getfield 53, 3) := by decide +kernel
theorem dX4_priceOf_27 : decode cX4_priceOf 27 = .ok (.ifCond .ne 19, 3) := by decide +kernel
theorem dX4_priceOf_30 : decode cX4_priceOf 30 = .ok (.iload 5, 2) := by decide +kernel
theorem dX4_priceOf_32 : decode cX4_priceOf 32 = .ok (.iconst 1, 1) := by decide +kernel
theorem dX4_priceOf_33 : decode cX4_priceOf 33 = .ok (.if_icmp .ne 10, 3) := by decide +kernel
theorem dX4_priceOf_36 : decode cX4_priceOf 36 = .ok (.iload 4, 2) := by decide +kernel
theorem dX4_priceOf_38 : decode cX4_priceOf 38 = .ok (.iconst 2, 1) := by decide +kernel
theorem dX4_priceOf_39 : decode cX4_priceOf 39 = .ok (.idiv, 1) := by decide +kernel
theorem dX4_priceOf_40 : decode cX4_priceOf 40 = .ok (.goto 5, 3) := by decide +kernel
theorem dX4_priceOf_43 : decode cX4_priceOf 43 = .ok (.iload 4, 2) := by decide +kernel
theorem dX4_priceOf_45 : decode cX4_priceOf 45 = .ok (.ireturn, 1) := by decide +kernel
theorem dX4_priceOf_46 : decode cX4_priceOf 46 = .ok (.aload_n 0, 1) := by decide +kernel
theorem dX4_priceOf_47 : decode cX4_priceOf 47 = .ok (.getfield 29, 3) := by decide +kernel
theorem dX4_priceOf_50 : decode cX4_priceOf 50 = .ok (.iconst 0, 1) := by decide +kernel
theorem dX4_priceOf_51 : decode cX4_priceOf 51 = .ok (.iload 4, 2) := by decide +kernel
theorem dX4_priceOf_53 : decode cX4_priceOf 53 = .ok (.iastore, 1) := by decide +kernel
theorem dX4_priceOf_54 : decode cX4_priceOf 54 = .ok (.aload_n 0, 1) := by decide +kernel
theorem dX4_priceOf_55 : decode cX4_priceOf 55 = .ok (.getfield 29, 3) := by decide +kernel
theorem dX4_priceOf_58 : decode cX4_priceOf 58 = .ok (.iconst 1, 1) := by decide +kernel
theorem dX4_priceOf_59 : decode cX4_priceOf 59 = .ok (.aload_n 0, 1) := by decide +kernel
theorem dX4_priceOf_60 : decode cX4_priceOf 60 = .ok (.getfield 35, 3) := by decide +kernel
theorem dX4_priceOf_63 : decode cX4_priceOf 63 = .ok (.iload_n 1, 1) := by decide +kernel
theorem dX4_priceOf_64 : decode cX4_priceOf 64 = .ok (.iconst 2, 1) := by decide +kernel
theorem dX4_priceOf_65 : decode cX4_priceOf 65 = .ok (.invokevirtual 103, 3) := by decide +kernel
theorem dX4_priceOf_68 : decode cX4_priceOf 68 = .ok (.iastore, 1) := by decide +kernel
theorem dX4_priceOf_69 : decode cX4_priceOf 69 = .ok (.aload_n 0, 1) := by decide +kernel
theorem dX4_priceOf_70 : decode cX4_priceOf 70 = .ok (.getfield 29, 3) := by decide +kernel
theorem dX4_priceOf_73 : decode cX4_priceOf 73 = .ok (.iconst 2, 1) := by decide +kernel
theorem dX4_priceOf_74 : decode cX4_priceOf 74 = .ok (.iload_n 2, 1) := by decide +kernel
theorem dX4_priceOf_75 : decode cX4_priceOf 75 = .ok (.iastore, 1) := by decide +kernel
theorem dX4_priceOf_76 : decode cX4_priceOf 76 = .ok (.aload_n 0, 1) := by decide +kernel
theorem dX4_priceOf_77 : decode cX4_priceOf 77 = .ok (.getfield 29, 3) := by decide +kernel
theorem dX4_priceOf_80 : decode cX4_priceOf 80 = .ok (.iconst 3, 1) := by decide +kernel
theorem dX4_priceOf_81 : decode cX4_priceOf 81 = .ok (.iload_n 3, 1) := by decide +kernel
theorem dX4_priceOf_82 : decode cX4_priceOf 82 = .ok (.iastore, 1) := by decide +kernel
theorem dX4_priceOf_83 : decode cX4_priceOf 83 = .ok (.aload_n 0, 1) := by decide +kernel
theorem dX4_priceOf_84 : decode cX4_priceOf 84 = .ok (.getfield 29, 3) := by decide +kernel
theorem dX4_priceOf_87 : decode cX4_priceOf 87 = .ok (.iconst 4, 1) := by decide +kernel
theorem dX4_priceOf_88 : decode cX4_priceOf 88 = .ok (.iload 5, 2) := by decide +kernel
theorem dX4_priceOf_90 : decode cX4_priceOf 90 = .ok (.iastore, 1) := by decide +kernel
theorem dX4_priceOf_91 : decode cX4_priceOf 91 = .ok (.aload_n 0, 1) := by decide +kernel
theorem dX4_priceOf_92 : decode cX4_priceOf 92 = .ok (.getfield 29, 3) := by decide +kernel
theorem dX4_priceOf_95 : decode cX4_priceOf 95 = .ok (.iconst 5, 1) := by decide +kernel
theorem dX4_priceOf_96 : decode cX4_priceOf 96 = .ok (.iload_n 1, 1) := by decide +kernel
theorem dX4_priceOf_97 : decode cX4_priceOf 97 = .ok (.iastore, 1) := by decide +kernel
theorem dX4_priceOf_98 : decode cX4_priceOf 98 = .ok (.iconst 0, 1) := by decide +kernel
theorem dX4_priceOf_99 : decode cX4_priceOf 99 = .ok (.bipush 99, 2) := by decide +kernel
theorem dX4_priceOf_101 : decode cX4_priceOf 101 = .ok (.aload_n 0, 1) := by decide +kernel
theorem dX4_priceOf_102 : decode cX4_priceOf 102 = .ok (.invokevirtual 107, 3) := by decide +kernel
theorem dX4_priceOf_105 : decode cX4_priceOf 105 = .ok (.invokestatic 110, 3) := by decide +kernel
theorem dX4_priceOf_108 : decode cX4_priceOf 108 = .ok (.invokestatic 115, 3) := by decide +kernel
theorem dX4_priceOf_111 : decode cX4_priceOf 111 = .ok (.ireturn, 1) := by decide +kernel
theorem dX4_worked_0 : decode cX4_worked 0 = .ok (.iconst 1, 1) := by decide +kernel
theorem dX4_worked_1 : decode cX4_worked 1 = .ok (.istore_n 1, 1) := by decide +kernel
theorem dX4_worked_2 : decode cX4_worked 2 = .ok (.aload_n 0, 1) := by decide +kernel
theorem dX4_worked_3 : decode cX4_worked 3 = .ok (.iconst 0, 1) := by decide +kernel
theorem dX4_worked_4 : decode cX4_worked 4 = .ok (.putfield 118, 3) := by decide +kernel
theorem dX4_worked_7 : decode cX4_worked 7 = .ok (.iconst 0, 1) := by decide +kernel
theorem dX4_worked_8 : decode cX4_worked 8 = .ok (.istore_n 2, 1) := by decide +kernel
theorem dX4_worked_9 : decode cX4_worked 9 = .ok (.iload_n 2, 1) := by decide +kernel
theorem dX4_worked_10 : decode cX4_worked 10 = .ok (.aload_n 0, 1) := by decide +kernel
theorem dX4_worked_11 : decode cX4_worked 11 = .ok (.getfield 53, 3) := by decide +kernel
theorem dX4_worked_14 : decode cX4_worked 14 = .ok (.if_icmp .ge 172, 3) := by decide +kernel
theorem dX4_worked_17 : decode cX4_worked 17 = .ok (.iload_n 2, 1) := by decide +kernel
theorem dX4_worked_18 : decode cX4_worked 18 = .ok (.aload_n 0, 1) := by decide +kernel
theorem dX4_worked_19 : decode cX4_worked 19 = .ok (.getfield 15, 3) := by decide +kernel
theorem dX4_worked_22 : decode cX4_worked 22 = .ok (.arraylength, 1) := by decide +kernel
theorem dX4_worked_23 : decode cX4_worked 23 = .ok (.if_icmp .ge 163, 3) := by decide +kernel
theorem dX4_worked_26 : decode cX4_worked 26 = .ok (.aload_n 0, 1) := by decide +kernel
theorem dX4_worked_27 : decode cX4_worked 27 = .ok (.getfield 15, 3) := by decide +kernel
theorem dX4_worked_30 : decode cX4_worked 30 = .ok (.iload_n 2, 1) := by decide +kernel
theorem dX4_worked_31 : decode cX4_worked 31 = .ok (.iaload, 1) := by decide +kernel
theorem dX4_worked_32 : decode cX4_worked 32 = .ok (.istore_n 3, 1) := by decide +kernel
theorem dX4_worked_33 : decode cX4_worked 33 = .ok (.iload_n 3, 1) := by decide +kernel
theorem dX4_worked_34 : decode cX4_worked 34 = .ok (.ifCond .lt 11, 3) := by decide +kernel
theorem dX4_worked_37 : decode cX4_worked 37 = .ok (.aload_n 0, 1) := by decide +kernel
theorem dX4_worked_38 : decode cX4_worked 38 = .ok (.iload_n 3, 1) := by decide +kernel
theorem dX4_worked_39 : decode cX4_worked 39 = .ok (.invokevirtual 121, 3) := by decide +kernel
theorem dX4_worked_42 : decode cX4_worked 42 = .ok (.goto 138, 3) := by decide +kernel
theorem dX4_worked_45 : decode cX4_worked 45 = .ok (.iload_n 3, 1) := by decide +kernel
theorem dX4_worked_46 : decode cX4_worked 46 = .ok (.aload_n 0, 1) := by decide +kernel
theorem dX4_worked_47 : decode cX4_worked 47 = .ok (.getfield 29, 3) := by decide +kernel
theorem dX4_worked_50 : decode cX4_worked 50 = .ok (.arraylength, 1) := by decide +kernel
theorem dX4_worked_51 : decode cX4_worked 51 = .ok (.ineg, 1) := by decide +kernel
theorem dX4_worked_52 : decode cX4_worked 52 = .ok (.if_icmp .lt 18, 3) := by decide +kernel
theorem dX4_worked_55 : decode cX4_worked 55 = .ok (.aload_n 0, 1) := by decide +kernel
theorem dX4_worked_56 : decode cX4_worked 56 = .ok (.aload_n 0, 1) := by decide +kernel
theorem dX4_worked_57 : decode cX4_worked 57 = .ok (.getfield 29, 3) := by decide +kernel
theorem dX4_worked_60 : decode cX4_worked 60 = .ok (.iconst (-1), 1) := by decide +kernel
theorem dX4_worked_61 : decode cX4_worked 61 = .ok (.iload_n 3, 1) := by decide +kernel
theorem dX4_worked_62 : decode cX4_worked 62 = .ok (.isub, 1) := by decide +kernel
theorem dX4_worked_63 : decode cX4_worked 63 = .ok (.iaload, 1) := by decide +kernel
theorem dX4_worked_64 : decode cX4_worked 64 = .ok (.invokevirtual 121, 3) := by decide +kernel
theorem dX4_worked_67 : decode cX4_worked 67 = .ok (.goto 113, 3) := by decide +kernel
theorem dX4_worked_70 : decode cX4_worked 70 = .ok (.iload_n 3, 1) := by decide +kernel
theorem dX4_worked_71 : decode cX4_worked 71 = .ok (.bipush (-63), 2) := by decide +kernel
theorem dX4_worked_73 : decode cX4_worked 73 = .ok (.if_icmp .ne 19, 3) := by decide +kernel
theorem dX4_worked_76 : decode cX4_worked 76 = .ok (.aload_n 0, 1) := by decide +kernel
theorem dX4_worked_77 : decode cX4_worked 77 = .ok (.invokevirtual 124, 3) := by decide +kernel
theorem dX4_worked_80 : decode cX4_worked 80 = .ok (.ifCond .eq 7, 3) := by decide +kernel
theorem dX4_worked_83 : decode cX4_worked 83 = .ok (.iconst 1, 1) := by decide +kernel
theorem dX4_worked_84 : decode cX4_worked 84 = .ok (.goto 4, 3) := by decide +kernel
theorem dX4_worked_87 : decode cX4_worked 87 = .ok (.iconst 0, 1) := by decide +kernel
theorem dX4_worked_88 : decode cX4_worked 88 = .ok (.istore_n 1, 1) := by decide +kernel
theorem dX4_worked_89 : decode cX4_worked 89 = .ok (.goto 91, 3) := by decide +kernel
theorem dX4_worked_92 : decode cX4_worked 92 = .ok (.iload_n 3, 1) := by decide +kernel
theorem dX4_worked_93 : decode cX4_worked 93 = .ok (.bipush (-59), 2) := by decide +kernel
theorem dX4_worked_95 : decode cX4_worked 95 = .ok (.if_icmp .ne 21, 3) := by decide +kernel
theorem dX4_worked_98 : decode cX4_worked 98 = .ok (.aload_n 0, 1) := by decide +kernel
theorem dX4_worked_99 : decode cX4_worked 99 = .ok (.invokevirtual 124, 3) := by decide +kernel
theorem dX4_worked_102 : decode cX4_worked 102 = .ok (.istore 4, 2) := by decide +kernel
theorem dX4_worked_104 : decode cX4_worked 104 = .ok (.iload_n 1, 1) := by decide +kernel
theorem dX4_worked_105 : decode cX4_worked 105 = .ok (.ifCond .eq 6, 3) := by decide +kernel
theorem dX4_worked_108 : decode cX4_worked 108 = .ok (.iload 4, 2) := by decide +kernel
theorem dX4_worked_110 : decode cX4_worked 110 = .ok (.ireturn, 1) := by decide +kernel
theorem dX4_worked_111 : decode cX4_worked 111 = .ok (.iconst 1, 1) := by decide +kernel
theorem dX4_worked_112 : decode cX4_worked 112 = .ok (.istore_n 1, 1) := by decide +kernel
theorem dX4_worked_113 : decode cX4_worked 113 = .ok (.goto 67, 3) := by decide +kernel
theorem dX4_worked_116 : decode cX4_worked 116 = .ok (.iload_n 3, 1) := by decide +kernel
theorem dX4_worked_117 : decode cX4_worked 117 = .ok (.bipush (-33), 2) := by decide +kernel
theorem dX4_worked_119 : decode cX4_worked 119 = .ok (.if_icmp .ne 22, 3) := by decide +kernel
theorem dX4_worked_122 : decode cX4_worked 122 = .ok (.aload_n 0, 1) := by decide +kernel
theorem dX4_worked_123 : decode cX4_worked 123 = .ok (.aload_n 0, 1) := by decide +kernel
theorem dX4_worked_124 : decode cX4_worked 124 = .ok (.invokevirtual 124, 3) := by decide +kernel
theorem dX4_worked_127 : decode cX4_worked 127 = .ok (.ifCond .ne 7, 3) := by decide +kernel
theorem dX4_worked_130 : decode cX4_worked 130 = .ok (.iconst 1, 1) := by decide +kernel
theorem dX4_worked_131 : decode cX4_worked 131 = .ok (.goto 4, 3) := by decide +kernel
theorem dX4_worked_134 : decode cX4_worked 134 = .ok (.iconst 0, 1) := by decide +kernel
theorem dX4_worked_135 : decode cX4_worked 135 = .ok (.invokevirtual 121, 3) := by decide +kernel
theorem dX4_worked_138 : decode cX4_worked 138 = .ok (.goto 42, 3) := by decide +kernel
theorem dX4_worked_141 : decode cX4_worked 141 = .ok (.iload_n 3, 1) := by decide +kernel
theorem dX4_worked_142 : decode cX4_worked 142 = .ok (.bipush (-126), 2) := by decide +kernel
theorem dX4_worked_144 : decode cX4_worked 144 = .ok (.if_icmp .ne 15, 3) := by decide +kernel
theorem dX4_worked_147 : decode cX4_worked 147 = .ok (.aload_n 0, 1) := by decide +kernel
theorem dX4_worked_148 : decode cX4_worked 148 = .ok (.aload_n 0, 1) := by decide +kernel
theorem dX4_worked_149 : decode cX4_worked 149 = .ok (.invokevirtual 124, 3) := by decide +kernel
theorem dX4_worked_152 : decode cX4_worked 152 = .ok (.ineg, 1) := by decide +kernel
theorem dX4_worked_153 : decode cX4_worked 153 = .ok (.invokevirtual 121, 3) := by decide +kernel
theorem dX4_worked_156 : decode cX4_worked 156 = .ok (.goto 24, 3) := by decide +kernel
theorem dX4_worked_159 : decode cX4_worked 159 = .ok (.aload_n 0, 1) := by decide +kernel
theorem dX4_worked_160 : decode cX4_worked 160 = .ok (.invokevirtual 124, 3) := by decide +kernel
theorem dX4_worked_163 : decode cX4_worked 163 = .ok (.istore 4, 2) := by decide +kernel
theorem dX4_worked_165 : decode cX4_worked 165 = .ok (.aload_n 0, 1) := by decide +kernel
theorem dX4_worked_166 : decode cX4_worked 166 = .ok (.iload_n 3, 1) := by decide +kernel
theorem dX4_worked_167 : decode cX4_worked 167 = .ok (.ineg, 1) := by decide +kernel
theorem dX4_worked_168 : decode cX4_worked 168 = .ok (.aload_n 0, 1) := by decide +kernel
theorem dX4_worked_169 : decode cX4_worked 169 = .ok (.invokevirtual 124, 3) := by decide +kernel
theorem dX4_worked_172 : decode cX4_worked 172 = .ok (.iload 4, 2) := by decide +kernel
theorem dX4_worked_174 : decode cX4_worked 174 = .ok (.invokestatic 127, 3) := by decide +kernel
theorem dX4_worked_177 : decode cX4_worked 177 = .ok (.invokevirtual 121, 3) := by decide +kernel
theorem dX4_worked_180 : decode cX4_worked 180 = .ok (.iinc 2 1, 3) := by decide +kernel
theorem dX4_worked_183 : decode cX4_worked 183 = .ok (.goto (-174), 3) := by decide +kernel
theorem dX4_worked_186 : decode cX4_worked 186 = .ok (.iconst 0, 1) := by decide +kernel
theorem dX4_worked_187 : decode cX4_worked 187 = .ok (.ireturn, 1) := by decide +kernel
theorem dX4_workedOut_0 : decode cX4_workedOut 0 = .ok (.iload_n 0, 1) := by decide +kernel
theorem dX4_workedOut_1 : decode cX4_workedOut 1 = .ok (.lookupswitch 188 #[(37, 176), (38, 105), (42, 160), (43, 152), (45, 156), (47, 164), (60, 119), (61, 130), (62, 141), (124, 91)], 91) := by decide +kernel
theorem dX4_workedOut_92 : decode cX4_workedOut 92 = .ok (.iload_n 1, 1) := by decide +kernel
theorem dX4_workedOut_93 : decode cX4_workedOut 93 = .ok (.ifCond .ne 7, 3) := by decide +kernel
theorem dX4_workedOut_96 : decode cX4_workedOut 96 = .ok (.iload_n 2, 1) := by decide +kernel
theorem dX4_workedOut_97 : decode cX4_workedOut 97 = .ok (.ifCond .eq 7, 3) := by decide +kernel
theorem dX4_workedOut_100 : decode cX4_workedOut 100 = .ok (.iconst 1, 1) := by decide +kernel
theorem dX4_workedOut_101 : decode cX4_workedOut 101 = .ok (.goto 4, 3) := by decide +kernel
theorem dX4_workedOut_104 : decode cX4_workedOut 104 = .ok (.iconst 0, 1) := by decide +kernel
theorem dX4_workedOut_105 : decode cX4_workedOut 105 = .ok (.ireturn, 1) := by decide +kernel
theorem dX4_workedOut_106 : decode cX4_workedOut 106 = .ok (.iload_n 1, 1) := by decide +kernel
theorem dX4_workedOut_107 : decode cX4_workedOut 107 = .ok (.ifCond .eq 11, 3) := by decide +kernel
theorem dX4_workedOut_110 : decode cX4_workedOut 110 = .ok (.iload_n 2, 1) := by decide +kernel
theorem dX4_workedOut_111 : decode cX4_workedOut 111 = .ok (.ifCond .eq 7, 3) := by decide +kernel
theorem dX4_workedOut_114 : decode cX4_workedOut 114 = .ok (.iconst 1, 1) := by decide +kernel
theorem dX4_workedOut_115 : decode cX4_workedOut 115 = .ok (.goto 4, 3) := by decide +kernel
theorem dX4_workedOut_118 : decode cX4_workedOut 118 = .ok (.iconst 0, 1) := by decide +kernel
theorem dX4_workedOut_119 : decode cX4_workedOut 119 = .ok (.ireturn, 1) := by decide +kernel
theorem dX4_workedOut_120 : decode cX4_workedOut 120 = .ok (.iload_n 1, 1) := by decide +kernel
theorem dX4_workedOut_121 : decode cX4_workedOut 121 = .ok (.iload_n 2, 1) := by decide +kernel
theorem dX4_workedOut_122 : decode cX4_workedOut 122 = .ok (.if_icmp .ge 7, 3) := by decide +kernel
theorem dX4_workedOut_125 : decode cX4_workedOut 125 = .ok (.iconst 1, 1) := by decide +kernel
theorem dX4_workedOut_126 : decode cX4_workedOut 126 = .ok (.goto 4, 3) := by decide +kernel
theorem dX4_workedOut_129 : decode cX4_workedOut 129 = .ok (.iconst 0, 1) := by decide +kernel
theorem dX4_workedOut_130 : decode cX4_workedOut 130 = .ok (.ireturn, 1) := by decide +kernel
theorem dX4_workedOut_131 : decode cX4_workedOut 131 = .ok (.iload_n 1, 1) := by decide +kernel
theorem dX4_workedOut_132 : decode cX4_workedOut 132 = .ok (.iload_n 2, 1) := by decide +kernel
theorem dX4_workedOut_133 : decode cX4_workedOut 133 = .ok (.if_icmp .ne 7, 3) := by decide +kernel
theorem dX4_workedOut_136 : decode cX4_workedOut 136 = .ok (.iconst 1, 1) := by decide +kernel
theorem dX4_workedOut_137 : decode cX4_workedOut 137 = .ok (.goto 4, 3) := by decide +kernel
theorem dX4_workedOut_140 : decode cX4_workedOut 140 = .ok (.iconst 0, 1) := by decide +kernel
theorem dX4_workedOut_141 : decode cX4_workedOut 141 = .ok (.ireturn, 1) := by decide +kernel
theorem dX4_workedOut_142 : decode cX4_workedOut 142 = .ok (.iload_n 1, 1) := by decide +kernel
theorem dX4_workedOut_143 : decode cX4_workedOut 143 = .ok (.iload_n 2, 1) := by decide +kernel
theorem dX4_workedOut_144 : decode cX4_workedOut 144 = .ok (.if_icmp .le 7, 3) := by decide +kernel
theorem dX4_workedOut_147 : decode cX4_workedOut 147 = .ok (.iconst 1, 1) := by decide +kernel
theorem dX4_workedOut_148 : decode cX4_workedOut 148 = .ok (.goto 4, 3) := by decide +kernel
theorem dX4_workedOut_151 : decode cX4_workedOut 151 = .ok (.iconst 0, 1) := by decide +kernel
theorem dX4_workedOut_152 : decode cX4_workedOut 152 = .ok (.ireturn, 1) := by decide +kernel
theorem dX4_workedOut_153 : decode cX4_workedOut 153 = .ok (.iload_n 1, 1) := by decide +kernel
theorem dX4_workedOut_154 : decode cX4_workedOut 154 = .ok (.iload_n 2, 1) := by decide +kernel
theorem dX4_workedOut_155 : decode cX4_workedOut 155 = .ok (.iadd, 1) := by decide +kernel
theorem dX4_workedOut_156 : decode cX4_workedOut 156 = .ok (.ireturn, 1) := by decide +kernel
theorem dX4_workedOut_157 : decode cX4_workedOut 157 = .ok (.iload_n 1, 1) := by decide +kernel
theorem dX4_workedOut_158 : decode cX4_workedOut 158 = .ok (.iload_n 2, 1) := by decide +kernel
theorem dX4_workedOut_159 : decode cX4_workedOut 159 = .ok (.isub, 1) := by decide +kernel
theorem dX4_workedOut_160 : decode cX4_workedOut 160 = .ok (.ireturn, 1) := by decide +kernel
theorem dX4_workedOut_161 : decode cX4_workedOut 161 = .ok (.iload_n 1, 1) := by decide +kernel
theorem dX4_workedOut_162 : decode cX4_workedOut 162 = .ok (.iload_n 2, 1) := by decide +kernel
theorem dX4_workedOut_163 : decode cX4_workedOut 163 = .ok (.imul, 1) := by decide +kernel
theorem dX4_workedOut_164 : decode cX4_workedOut 164 = .ok (.ireturn, 1) := by decide +kernel
theorem dX4_workedOut_165 : decode cX4_workedOut 165 = .ok (.iload_n 2, 1) := by decide +kernel
theorem dX4_workedOut_166 : decode cX4_workedOut 166 = .ok (.ifCond .ne 7, 3) := by decide +kernel
theorem dX4_workedOut_169 : decode cX4_workedOut 169 = .ok (.iconst 0, 1) := by decide +kernel
theorem dX4_workedOut_170 : decode cX4_workedOut 170 = .ok (.goto 6, 3) := by decide +kernel
theorem dX4_workedOut_173 : decode cX4_workedOut 173 = .ok (.iload_n 1, 1) := by decide +kernel
theorem dX4_workedOut_174 : decode cX4_workedOut 174 = .ok (.iload_n 2, 1) := by decide +kernel
theorem dX4_workedOut_175 : decode cX4_workedOut 175 = .ok (.idiv, 1) := by decide +kernel
theorem dX4_workedOut_176 : decode cX4_workedOut 176 = .ok (.ireturn, 1) := by decide +kernel
theorem dX4_workedOut_177 : decode cX4_workedOut 177 = .ok (.iload_n 2, 1) := by decide +kernel
theorem dX4_workedOut_178 : decode cX4_workedOut 178 = .ok (.ifCond .ne 7, 3) := by decide +kernel
theorem dX4_workedOut_181 : decode cX4_workedOut 181 = .ok (.iconst 0, 1) := by decide +kernel
theorem dX4_workedOut_182 : decode cX4_workedOut 182 = .ok (.goto 6, 3) := by decide +kernel
theorem dX4_workedOut_185 : decode cX4_workedOut 185 = .ok (.iload_n 1, 1) := by decide +kernel
theorem dX4_workedOut_186 : decode cX4_workedOut 186 = .ok (.iload_n 2, 1) := by decide +kernel
theorem dX4_workedOut_187 : decode cX4_workedOut 187 = .ok (.irem, 1) := by decide +kernel
theorem dX4_workedOut_188 : decode cX4_workedOut 188 = .ok (.ireturn, 1) := by decide +kernel
theorem dX4_workedOut_189 : decode cX4_workedOut 189 = .ok (.iconst 0, 1) := by decide +kernel
theorem dX4_workedOut_190 : decode cX4_workedOut 190 = .ok (.ireturn, 1) := by decide +kernel
theorem dX4_push_0 : decode cX4_push 0 = .ok (.aload_n 0, 1) := by decide +kernel
theorem dX4_push_1 : decode cX4_push 1 = .ok (.getfield 118, 3) := by decide +kernel
theorem dX4_push_4 : decode cX4_push 4 = .ok (.ifCond .lt 32, 3) := by decide +kernel
theorem dX4_push_7 : decode cX4_push 7 = .ok (.aload_n 0, 1) := by decide +kernel
theorem dX4_push_8 : decode cX4_push 8 = .ok (.getfield 118, 3) := by decide +kernel
theorem dX4_push_11 : decode cX4_push 11 = .ok (.aload_n 0, 1) := by decide +kernel
theorem dX4_push_12 : decode cX4_push 12 = .ok (.getfield 32, 3) := by decide +kernel
theorem dX4_push_15 : decode cX4_push 15 = .ok (.arraylength, 1) := by decide +kernel
theorem dX4_push_16 : decode cX4_push 16 = .ok (.if_icmp .ge 20, 3) := by decide +kernel
theorem dX4_push_19 : decode cX4_push 19 = .ok (.aload_n 0, 1) := by decide +kernel
theorem dX4_push_20 : decode cX4_push 20 = .ok (.getfield 32, 3) := by decide +kernel
theorem dX4_push_23 : decode cX4_push 23 = .ok (.aload_n 0, 1) := by decide +kernel
theorem dX4_push_24 : decode cX4_push 24 = .ok (.dup, 1) := by decide +kernel
theorem dX4_push_25 : decode cX4_push 25 = .ok (.getfield 118, 3) := by decide +kernel
theorem dX4_push_28 : decode cX4_push 28 = .ok (.dup_x1, 1) := by decide +kernel
theorem dX4_push_29 : decode cX4_push 29 = .ok (.iconst 1, 1) := by decide +kernel
theorem dX4_push_30 : decode cX4_push 30 = .ok (.iadd, 1) := by decide +kernel
theorem dX4_push_31 : decode cX4_push 31 = .ok (.putfield 118, 3) := by decide +kernel
theorem dX4_push_34 : decode cX4_push 34 = .ok (.iload_n 1, 1) := by decide +kernel
theorem dX4_push_35 : decode cX4_push 35 = .ok (.iastore, 1) := by decide +kernel
theorem dX4_push_36 : decode cX4_push 36 = .ok (.return_, 1) := by decide +kernel
theorem dX4_pop_0 : decode cX4_pop 0 = .ok (.aload_n 0, 1) := by decide +kernel
theorem dX4_pop_1 : decode cX4_pop 1 = .ok (.getfield 118, 3) := by decide +kernel
theorem dX4_pop_4 : decode cX4_pop 4 = .ok (.ifCond .le 34, 3) := by decide +kernel
theorem dX4_pop_7 : decode cX4_pop 7 = .ok (.aload_n 0, 1) := by decide +kernel
theorem dX4_pop_8 : decode cX4_pop 8 = .ok (.getfield 118, 3) := by decide +kernel
theorem dX4_pop_11 : decode cX4_pop 11 = .ok (.aload_n 0, 1) := by decide +kernel
theorem dX4_pop_12 : decode cX4_pop 12 = .ok (.getfield 32, 3) := by decide +kernel
theorem dX4_pop_15 : decode cX4_pop 15 = .ok (.arraylength, 1) := by decide +kernel
theorem dX4_pop_16 : decode cX4_pop 16 = .ok (.if_icmp .gt 22, 3) := by decide +kernel
theorem dX4_pop_19 : decode cX4_pop 19 = .ok (.aload_n 0, 1) := by decide +kernel
theorem dX4_pop_20 : decode cX4_pop 20 = .ok (.getfield 32, 3) := by decide +kernel
theorem dX4_pop_23 : decode cX4_pop 23 = .ok (.aload_n 0, 1) := by decide +kernel
theorem dX4_pop_24 : decode cX4_pop 24 = .ok (.dup, 1) := by decide +kernel
theorem dX4_pop_25 : decode cX4_pop 25 = .ok (.getfield 118, 3) := by decide +kernel
theorem dX4_pop_28 : decode cX4_pop 28 = .ok (.iconst 1, 1) := by decide +kernel
theorem dX4_pop_29 : decode cX4_pop 29 = .ok (.isub, 1) := by decide +kernel
theorem dX4_pop_30 : decode cX4_pop 30 = .ok (.dup_x1, 1) := by decide +kernel
theorem dX4_pop_31 : decode cX4_pop 31 = .ok (.putfield 118, 3) := by decide +kernel
theorem dX4_pop_34 : decode cX4_pop 34 = .ok (.iaload, 1) := by decide +kernel
theorem dX4_pop_35 : decode cX4_pop 35 = .ok (.goto 4, 3) := by decide +kernel
theorem dX4_pop_38 : decode cX4_pop 38 = .ok (.iconst 0, 1) := by decide +kernel
theorem dX4_pop_39 : decode cX4_pop 39 = .ok (.ireturn, 1) := by decide +kernel
theorem dX5_init_0 : decode cX5_init 0 = .ok (.aload_n 0, 1) := by decide +kernel
theorem dX5_init_1 : decode cX5_init 1 = .ok (.invokespecial 3, 3) := by decide +kernel
theorem dX5_init_4 : decode cX5_init 4 = .ok (.aload_n 0, 1) := by decide +kernel
theorem dX5_init_5 : decode cX5_init 5 = .ok (.bipush 10, 2) := by decide +kernel
theorem dX5_init_7 : decode cX5_init 7 = .ok (.bipush 12, 2) := by decide +kernel
theorem dX5_init_9 : decode cX5_init 9 = .ok (.multianewarray 9 2, 4) := by decide +kernel
theorem dX5_init_13 : decode cX5_init 13 = .ok (.putfield 11, 3) := by decide +kernel
theorem dX5_init_16 : decode cX5_init 16 = .ok (.aload_n 0, 1) := by decide +kernel
theorem dX5_init_17 : decode cX5_init 17 = .ok (.getfield 11, 3) := by decide +kernel
theorem dX5_init_20 : decode cX5_init 20 = .ok (.bipush 8, 2) := by decide +kernel
theorem dX5_init_22 : decode cX5_init 22 = .ok (.aaload, 1) := by decide +kernel
theorem dX5_init_23 : decode cX5_init 23 = .ok (.iconst 0, 1) := by decide +kernel
theorem dX5_init_24 : decode cX5_init 24 = .ok (.iconst 1, 1) := by decide +kernel
theorem dX5_init_25 : decode cX5_init 25 = .ok (.iastore, 1) := by decide +kernel
theorem dX5_init_26 : decode cX5_init 26 = .ok (.aload_n 0, 1) := by decide +kernel
theorem dX5_init_27 : decode cX5_init 27 = .ok (.getfield 11, 3) := by decide +kernel
theorem dX5_init_30 : decode cX5_init 30 = .ok (.bipush 9, 2) := by decide +kernel
theorem dX5_init_32 : decode cX5_init 32 = .ok (.aaload, 1) := by decide +kernel
theorem dX5_init_33 : decode cX5_init 33 = .ok (.iconst 0, 1) := by decide +kernel
theorem dX5_init_34 : decode cX5_init 34 = .ok (.bipush 10, 2) := by decide +kernel
theorem dX5_init_36 : decode cX5_init 36 = .ok (.iastore, 1) := by decide +kernel
theorem dX5_init_37 : decode cX5_init 37 = .ok (.return_, 1) := by decide +kernel
theorem dX5_has_0 : decode cX5_has 0 = .ok (.iload_n 1, 1) := by decide +kernel
theorem dX5_has_1 : decode cX5_has 1 = .ok (.ifCond .lt 19, 3) := by decide +kernel
theorem dX5_has_4 : decode cX5_has 4 = .ok (.iload_n 1, 1) := by decide +kernel
theorem dX5_has_5 : decode cX5_has 5 = .ok (.bipush 12, 2) := by decide +kernel
theorem dX5_has_7 : decode cX5_has 7 = .ok (.if_icmp .ge 13, 3) := by decide +kernel
theorem dX5_has_10 : decode cX5_has 10 = .ok (.iload_n 2, 1) := by decide +kernel
theorem dX5_has_11 : decode cX5_has 11 = .ok (.ifCond .lt 9, 3) := by decide +kernel
theorem dX5_has_14 : decode cX5_has 14 = .ok (.iload_n 2, 1) := by decide +kernel
theorem dX5_has_15 : decode cX5_has 15 = .ok (.bipush 9, 2) := by decide +kernel
theorem dX5_has_17 : decode cX5_has 17 = .ok (.if_icmp .le 5, 3) := by decide +kernel
theorem dX5_has_20 : decode cX5_has 20 = .ok (.iconst 0, 1) := by decide +kernel
theorem dX5_has_21 : decode cX5_has 21 = .ok (.ireturn, 1) := by decide +kernel
theorem dX5_has_22 : decode cX5_has 22 = .ok (.iload_n 1, 1) := by decide +kernel
theorem dX5_has_23 : decode cX5_has 23 = .ok (.iload_n 2, 1) := by decide +kernel
theorem dX5_has_24 : decode cX5_has 24 = .ok (.iconst 4, 1) := by decide +kernel
theorem dX5_has_25 : decode cX5_has 25 = .ok (.if_icmp .gt 10, 3) := by decide +kernel
theorem dX5_has_28 : decode cX5_has 28 = .ok (.aload_n 0, 1) := by decide +kernel
theorem dX5_has_29 : decode cX5_has 29 = .ok (.getfield 16, 3) := by decide +kernel
theorem dX5_has_32 : decode cX5_has 32 = .ok (.goto 17, 3) := by decide +kernel
theorem dX5_has_35 : decode cX5_has 35 = .ok (.iload_n 2, 1) := by decide +kernel
theorem dX5_has_36 : decode cX5_has 36 = .ok (.bipush 6, 2) := by decide +kernel
theorem dX5_has_38 : decode cX5_has 38 = .ok (.if_icmp .gt 10, 3) := by decide +kernel
theorem dX5_has_41 : decode cX5_has 41 = .ok (.aload_n 0, 1) := by decide +kernel
theorem dX5_has_42 : decode cX5_has 42 = .ok (.getfield 20, 3) := by decide +kernel
theorem dX5_has_45 : decode cX5_has 45 = .ok (.goto 4, 3) := by decide +kernel
theorem dX5_has_48 : decode cX5_has 48 = .ok (.iconst 1, 1) := by decide +kernel
theorem dX5_has_49 : decode cX5_has 49 = .ok (.if_icmp .ge 7, 3) := by decide +kernel
theorem dX5_has_52 : decode cX5_has 52 = .ok (.iconst 1, 1) := by decide +kernel
theorem dX5_has_53 : decode cX5_has 53 = .ok (.goto 4, 3) := by decide +kernel
theorem dX5_has_56 : decode cX5_has 56 = .ok (.iconst 0, 1) := by decide +kernel
theorem dX5_has_57 : decode cX5_has 57 = .ok (.ireturn, 1) := by decide +kernel
theorem dX5_fits_0 : decode cX5_fits 0 = .ok (.iload_n 1, 1) := by decide +kernel
theorem dX5_fits_1 : decode cX5_fits 1 = .ok (.ifCond .lt 9, 3) := by decide +kernel
theorem dX5_fits_4 : decode cX5_fits 4 = .ok (.iload_n 1, 1) := by decide +kernel
theorem dX5_fits_5 : decode cX5_fits 5 = .ok (.bipush 9, 2) := by decide +kernel
theorem dX5_fits_7 : decode cX5_fits 7 = .ok (.if_icmp .le 5, 3) := by decide +kernel
theorem dX5_fits_10 : decode cX5_fits 10 = .ok (.iconst 0, 1) := by decide +kernel
theorem dX5_fits_11 : decode cX5_fits 11 = .ok (.ireturn, 1) := by decide +kernel
theorem dX5_fits_12 : decode cX5_fits 12 = .ok (.iload_n 2, 1) := by decide +kernel
theorem dX5_fits_13 : decode cX5_fits 13 = .ok (.getstatic 23, 3) := by decide +kernel
theorem dX5_fits_16 : decode cX5_fits 16 = .ok (.iload_n 1, 1) := by decide +kernel
theorem dX5_fits_17 : decode cX5_fits 17 = .ok (.iaload, 1) := by decide +kernel
theorem dX5_fits_18 : decode cX5_fits 18 = .ok (.iload_n 1, 1) := by decide +kernel
theorem dX5_fits_19 : decode cX5_fits 19 = .ok (.iconst 4, 1) := by decide +kernel
theorem dX5_fits_20 : decode cX5_fits 20 = .ok (.if_icmp .ne 12, 3) := by decide +kernel
theorem dX5_fits_23 : decode cX5_fits 23 = .ok (.aload_n 0, 1) := by decide +kernel
theorem dX5_fits_24 : decode cX5_fits 24 = .ok (.getfield 16, 3) := by decide +kernel
theorem dX5_fits_27 : decode cX5_fits 27 = .ok (.iconst 1, 1) := by decide +kernel
theorem dX5_fits_28 : decode cX5_fits 28 = .ok (.isub, 1) := by decide +kernel
theorem dX5_fits_29 : decode cX5_fits 29 = .ok (.goto 8, 3) := by decide +kernel
theorem dX5_fits_32 : decode cX5_fits 32 = .ok (.getstatic 27, 3) := by decide +kernel
theorem dX5_fits_35 : decode cX5_fits 35 = .ok (.iload_n 1, 1) := by decide +kernel
theorem dX5_fits_36 : decode cX5_fits 36 = .ok (.iaload, 1) := by decide +kernel
theorem dX5_fits_37 : decode cX5_fits 37 = .ok (.invokestatic 30, 3) := by decide +kernel
theorem dX5_fits_40 : decode cX5_fits 40 = .ok (.ireturn, 1) := by decide +kernel
theorem dX5_value_0 : decode cX5_value 0 = .ok (.aload_n 0, 1) := by decide +kernel
theorem dX5_value_1 : decode cX5_value 1 = .ok (.iload_n 1, 1) := by decide +kernel
theorem dX5_value_2 : decode cX5_value 2 = .ok (.iload_n 2, 1) := by decide +kernel
theorem dX5_value_3 : decode cX5_value 3 = .ok (.invokevirtual 34, 3) := by decide +kernel
theorem dX5_value_6 : decode cX5_value 6 = .ok (.ifCond .eq 14, 3) := by decide +kernel
theorem dX5_value_9 : decode cX5_value 9 = .ok (.aload_n 0, 1) := by decide +kernel
theorem dX5_value_10 : decode cX5_value 10 = .ok (.getfield 11, 3) := by decide +kernel
theorem dX5_value_13 : decode cX5_value 13 = .ok (.iload_n 2, 1) := by decide +kernel
theorem dX5_value_14 : decode cX5_value 14 = .ok (.aaload, 1) := by decide +kernel
theorem dX5_value_15 : decode cX5_value 15 = .ok (.iload_n 1, 1) := by decide +kernel
theorem dX5_value_16 : decode cX5_value 16 = .ok (.iaload, 1) := by decide +kernel
theorem dX5_value_17 : decode cX5_value 17 = .ok (.goto 4, 3) := by decide +kernel
theorem dX5_value_20 : decode cX5_value 20 = .ok (.iconst 0, 1) := by decide +kernel
theorem dX5_value_21 : decode cX5_value 21 = .ok (.ireturn, 1) := by decide +kernel
theorem dX5_set_0 : decode cX5_set 0 = .ok (.aload_n 0, 1) := by decide +kernel
theorem dX5_set_1 : decode cX5_set 1 = .ok (.iload_n 1, 1) := by decide +kernel
theorem dX5_set_2 : decode cX5_set 2 = .ok (.iload_n 2, 1) := by decide +kernel
theorem dX5_set_3 : decode cX5_set 3 = .ok (.invokevirtual 34, 3) := by decide +kernel
theorem dX5_set_6 : decode cX5_set 6 = .ok (.ifCond .eq 37, 3) := by decide +kernel
theorem dX5_set_9 : decode cX5_set 9 = .ok (.aload_n 0, 1) := by decide +kernel
theorem dX5_set_10 : decode cX5_set 10 = .ok (.getfield 11, 3) := by decide +kernel
theorem dX5_set_13 : decode cX5_set 13 = .ok (.iload_n 2, 1) := by decide +kernel
theorem dX5_set_14 : decode cX5_set 14 = .ok (.aaload, 1) := by decide +kernel
theorem dX5_set_15 : decode cX5_set 15 = .ok (.iload_n 1, 1) := by decide +kernel
theorem dX5_set_16 : decode cX5_set 16 = .ok (.iload_n 3, 1) := by decide +kernel
theorem dX5_set_17 : decode cX5_set 17 = .ok (.iastore, 1) := by decide +kernel
theorem dX5_set_18 : decode cX5_set 18 = .ok (.aload_n 0, 1) := by decide +kernel
theorem dX5_set_19 : decode cX5_set 19 = .ok (.dup, 1) := by decide +kernel
theorem dX5_set_20 : decode cX5_set 20 = .ok (.getfield 38, 3) := by decide +kernel
theorem dX5_set_23 : decode cX5_set 23 = .ok (.iload_n 2, 1) := by decide +kernel
theorem dX5_set_24 : decode cX5_set 24 = .ok (.iconst 2, 1) := by decide +kernel
theorem dX5_set_25 : decode cX5_set 25 = .ok (.if_icmp .le 9, 3) := by decide +kernel
theorem dX5_set_28 : decode cX5_set 28 = .ok (.iload_n 2, 1) := by decide +kernel
theorem dX5_set_29 : decode cX5_set 29 = .ok (.bipush 7, 2) := by decide +kernel
theorem dX5_set_31 : decode cX5_set 31 = .ok (.if_icmp .ne 7, 3) := by decide +kernel
theorem dX5_set_34 : decode cX5_set 34 = .ok (.iconst 1, 1) := by decide +kernel
theorem dX5_set_35 : decode cX5_set 35 = .ok (.goto 4, 3) := by decide +kernel
theorem dX5_set_38 : decode cX5_set 38 = .ok (.iconst 0, 1) := by decide +kernel
theorem dX5_set_39 : decode cX5_set 39 = .ok (.iadd, 1) := by decide +kernel
theorem dX5_set_40 : decode cX5_set 40 = .ok (.putfield 38, 3) := by decide +kernel
theorem dX5_set_43 : decode cX5_set 43 = .ok (.return_, 1) := by decide +kernel
theorem dX5_addWord_0 : decode cX5_addWord 0 = .ok (.aload_n 0, 1) := by decide +kernel
theorem dX5_addWord_1 : decode cX5_addWord 1 = .ok (.getfield 16, 3) := by decide +kernel
theorem dX5_addWord_4 : decode cX5_addWord 4 = .ok (.bipush 12, 2) := by decide +kernel
theorem dX5_addWord_6 : decode cX5_addWord 6 = .ok (.if_icmp .lt 6, 3) := by decide +kernel
theorem dX5_addWord_9 : decode cX5_addWord 9 = .ok (.bipush (-3), 2) := by decide +kernel
theorem dX5_addWord_11 : decode cX5_addWord 11 = .ok (.ireturn, 1) := by decide +kernel
theorem dX5_addWord_12 : decode cX5_addWord 12 = .ok (.aload_n 0, 1) := by decide +kernel
theorem dX5_addWord_13 : decode cX5_addWord 13 = .ok (.dup, 1) := by decide +kernel
theorem dX5_addWord_14 : decode cX5_addWord 14 = .ok (.getfield 16, 3) := by decide +kernel
theorem dX5_addWord_17 : decode cX5_addWord 17 = .ok (.dup_x1, 1) := by decide +kernel
theorem dX5_addWord_18 : decode cX5_addWord 18 = .ok (.iconst 1, 1) := by decide +kernel
theorem dX5_addWord_19 : decode cX5_addWord 19 = .ok (.iadd, 1) := by decide +kernel
theorem dX5_addWord_20 : decode cX5_addWord 20 = .ok (.putfield 16, 3) := by decide +kernel
theorem dX5_addWord_23 : decode cX5_addWord 23 = .ok (.istore 4, 2) := by decide +kernel
theorem dX5_addWord_25 : decode cX5_addWord 25 = .ok (.aload_n 0, 1) := by decide +kernel
theorem dX5_addWord_26 : decode cX5_addWord 26 = .ok (.iload 4, 2) := by decide +kernel
theorem dX5_addWord_28 : decode cX5_addWord 28 = .ok (.iconst 0, 1) := by decide +kernel
theorem dX5_addWord_29 : decode cX5_addWord 29 = .ok (.iload_n 1, 1) := by decide +kernel
theorem dX5_addWord_30 : decode cX5_addWord 30 = .ok (.invokevirtual 41, 3) := by decide +kernel
theorem dX5_addWord_33 : decode cX5_addWord 33 = .ok (.aload_n 0, 1) := by decide +kernel
theorem dX5_addWord_34 : decode cX5_addWord 34 = .ok (.iload 4, 2) := by decide +kernel
theorem dX5_addWord_36 : decode cX5_addWord 36 = .ok (.iconst 1, 1) := by decide +kernel
theorem dX5_addWord_37 : decode cX5_addWord 37 = .ok (.iload_n 2, 1) := by decide +kernel
theorem dX5_addWord_38 : decode cX5_addWord 38 = .ok (.invokevirtual 41, 3) := by decide +kernel
theorem dX5_addWord_41 : decode cX5_addWord 41 = .ok (.aload_n 0, 1) := by decide +kernel
theorem dX5_addWord_42 : decode cX5_addWord 42 = .ok (.iload 4, 2) := by decide +kernel
theorem dX5_addWord_44 : decode cX5_addWord 44 = .ok (.iconst 2, 1) := by decide +kernel
theorem dX5_addWord_45 : decode cX5_addWord 45 = .ok (.iload_n 3, 1) := by decide +kernel
theorem dX5_addWord_46 : decode cX5_addWord 46 = .ok (.invokevirtual 41, 3) := by decide +kernel
theorem dX5_addWord_49 : decode cX5_addWord 49 = .ok (.aload_n 0, 1) := by decide +kernel
theorem dX5_addWord_50 : decode cX5_addWord 50 = .ok (.iload 4, 2) := by decide +kernel
theorem dX5_addWord_52 : decode cX5_addWord 52 = .ok (.iconst 3, 1) := by decide +kernel
theorem dX5_addWord_53 : decode cX5_addWord 53 = .ok (.iconst 5, 1) := by decide +kernel
theorem dX5_addWord_54 : decode cX5_addWord 54 = .ok (.invokevirtual 41, 3) := by decide +kernel
theorem dX5_addWord_57 : decode cX5_addWord 57 = .ok (.aload_n 0, 1) := by decide +kernel
theorem dX5_addWord_58 : decode cX5_addWord 58 = .ok (.iload 4, 2) := by decide +kernel
theorem dX5_addWord_60 : decode cX5_addWord 60 = .ok (.iconst 4, 1) := by decide +kernel
theorem dX5_addWord_61 : decode cX5_addWord 61 = .ok (.iload 4, 2) := by decide +kernel
theorem dX5_addWord_63 : decode cX5_addWord 63 = .ok (.invokevirtual 41, 3) := by decide +kernel
theorem dX5_addWord_66 : decode cX5_addWord 66 = .ok (.iload 4, 2) := by decide +kernel
theorem dX5_addWord_68 : decode cX5_addWord 68 = .ok (.ireturn, 1) := by decide +kernel
theorem dX5_addPerson_0 : decode cX5_addPerson 0 = .ok (.aload_n 0, 1) := by decide +kernel
theorem dX5_addPerson_1 : decode cX5_addPerson 1 = .ok (.getfield 20, 3) := by decide +kernel
theorem dX5_addPerson_4 : decode cX5_addPerson 4 = .ok (.bipush 6, 2) := by decide +kernel
theorem dX5_addPerson_6 : decode cX5_addPerson 6 = .ok (.if_icmp .lt 6, 3) := by decide +kernel
theorem dX5_addPerson_9 : decode cX5_addPerson 9 = .ok (.bipush (-3), 2) := by decide +kernel
theorem dX5_addPerson_11 : decode cX5_addPerson 11 = .ok (.ireturn, 1) := by decide +kernel
theorem dX5_addPerson_12 : decode cX5_addPerson 12 = .ok (.aload_n 0, 1) := by decide +kernel
theorem dX5_addPerson_13 : decode cX5_addPerson 13 = .ok (.dup, 1) := by decide +kernel
theorem dX5_addPerson_14 : decode cX5_addPerson 14 = .ok (.getfield 20, 3) := by decide +kernel
theorem dX5_addPerson_17 : decode cX5_addPerson 17 = .ok (.dup_x1, 1) := by decide +kernel
theorem dX5_addPerson_18 : decode cX5_addPerson 18 = .ok (.iconst 1, 1) := by decide +kernel
theorem dX5_addPerson_19 : decode cX5_addPerson 19 = .ok (.iadd, 1) := by decide +kernel
theorem dX5_addPerson_20 : decode cX5_addPerson 20 = .ok (.putfield 20, 3) := by decide +kernel
theorem dX5_addPerson_23 : decode cX5_addPerson 23 = .ok (.istore_n 2, 1) := by decide +kernel
theorem dX5_addPerson_24 : decode cX5_addPerson 24 = .ok (.aload_n 0, 1) := by decide +kernel
theorem dX5_addPerson_25 : decode cX5_addPerson 25 = .ok (.iload_n 2, 1) := by decide +kernel
theorem dX5_addPerson_26 : decode cX5_addPerson 26 = .ok (.iconst 5, 1) := by decide +kernel
theorem dX5_addPerson_27 : decode cX5_addPerson 27 = .ok (.iload_n 1, 1) := by decide +kernel
theorem dX5_addPerson_28 : decode cX5_addPerson 28 = .ok (.invokevirtual 41, 3) := by decide +kernel
theorem dX5_addPerson_31 : decode cX5_addPerson 31 = .ok (.iload_n 2, 1) := by decide +kernel
theorem dX5_addPerson_32 : decode cX5_addPerson 32 = .ok (.ireturn, 1) := by decide +kernel
theorem dX6_init_0 : decode cX6_init 0 = .ok (.aload_n 0, 1) := by decide +kernel
theorem dX6_init_1 : decode cX6_init 1 = .ok (.invokespecial 5, 3) := by decide +kernel
theorem dX6_init_4 : decode cX6_init 4 = .ok (.aload_n 0, 1) := by decide +kernel
theorem dX6_init_5 : decode cX6_init 5 = .ok (.bipush 64, 2) := by decide +kernel
theorem dX6_init_7 : decode cX6_init 7 = .ok (.newarray .long, 2) := by decide +kernel
theorem dX6_init_9 : decode cX6_init 9 = .ok (.putfield 11, 3) := by decide +kernel
theorem dX6_init_12 : decode cX6_init 12 = .ok (.aload_n 0, 1) := by decide +kernel
theorem dX6_init_13 : decode cX6_init 13 = .ok (.sipush 256, 3) := by decide +kernel
theorem dX6_init_16 : decode cX6_init 16 = .ok (.newarray .long, 2) := by decide +kernel
theorem dX6_init_18 : decode cX6_init 18 = .ok (.putfield 15, 3) := by decide +kernel
theorem dX6_init_21 : decode cX6_init 21 = .ok (.aload_n 0, 1) := by decide +kernel
theorem dX6_init_22 : decode cX6_init 22 = .ok (.sipush 256, 3) := by decide +kernel
theorem dX6_init_25 : decode cX6_init 25 = .ok (.newarray .long, 2) := by decide +kernel
theorem dX6_init_27 : decode cX6_init 27 = .ok (.putfield 18, 3) := by decide +kernel
theorem dX6_init_30 : decode cX6_init 30 = .ok (.aload_n 0, 1) := by decide +kernel
theorem dX6_init_31 : decode cX6_init 31 = .ok (.iconst (-1), 1) := by decide +kernel
theorem dX6_init_32 : decode cX6_init 32 = .ok (.putfield 21, 3) := by decide +kernel
theorem dX6_init_35 : decode cX6_init 35 = .ok (.aload_n 0, 1) := by decide +kernel
theorem dX6_init_36 : decode cX6_init 36 = .ok (.aload_n 1, 1) := by decide +kernel
theorem dX6_init_37 : decode cX6_init 37 = .ok (.putfield 25, 3) := by decide +kernel
theorem dX6_init_40 : decode cX6_init 40 = .ok (.aload_n 0, 1) := by decide +kernel
theorem dX6_init_41 : decode cX6_init 41 = .ok (.aload_n 2, 1) := by decide +kernel
theorem dX6_init_42 : decode cX6_init 42 = .ok (.putfield 29, 3) := by decide +kernel
theorem dX6_init_45 : decode cX6_init 45 = .ok (.return_, 1) := by decide +kernel
theorem dX6_priceIn_0 : decode cX6_priceIn 0 = .ok (.lload_n 0, 1) := by decide +kernel
theorem dX6_priceIn_1 : decode cX6_priceIn 1 = .ok (.bipush 28, 2) := by decide +kernel
theorem dX6_priceIn_3 : decode cX6_priceIn 3 = .ok (.lshr, 1) := by decide +kernel
theorem dX6_priceIn_4 : decode cX6_priceIn 4 = .ok (.l2i, 1) := by decide +kernel
theorem dX6_priceIn_5 : decode cX6_priceIn 5 = .ok (.ireturn, 1) := by decide +kernel
theorem dX6_manyIn_0 : decode cX6_manyIn 0 = .ok (.lload_n 0, 1) := by decide +kernel
theorem dX6_manyIn_1 : decode cX6_manyIn 1 = .ok (.bipush 24, 2) := by decide +kernel
theorem dX6_manyIn_3 : decode cX6_manyIn 3 = .ok (.lshr, 1) := by decide +kernel
theorem dX6_manyIn_4 : decode cX6_manyIn 4 = .ok (.ldc2_w 33, 3) := by decide +kernel
theorem dX6_manyIn_7 : decode cX6_manyIn 7 = .ok (.land, 1) := by decide +kernel
theorem dX6_manyIn_8 : decode cX6_manyIn 8 = .ok (.l2i, 1) := by decide +kernel
theorem dX6_manyIn_9 : decode cX6_manyIn 9 = .ok (.ireturn, 1) := by decide +kernel
theorem dX6_wordIn_0 : decode cX6_wordIn 0 = .ok (.lload_n 0, 1) := by decide +kernel
theorem dX6_wordIn_1 : decode cX6_wordIn 1 = .ok (.iconst 4, 1) := by decide +kernel
theorem dX6_wordIn_2 : decode cX6_wordIn 2 = .ok (.lload_n 0, 1) := by decide +kernel
theorem dX6_wordIn_3 : decode cX6_wordIn 3 = .ok (.invokestatic 35, 3) := by decide +kernel
theorem dX6_wordIn_6 : decode cX6_wordIn 6 = .ok (.iconst 1, 1) := by decide +kernel
theorem dX6_wordIn_7 : decode cX6_wordIn 7 = .ok (.isub, 1) := by decide +kernel
theorem dX6_wordIn_8 : decode cX6_wordIn 8 = .ok (.iload_n 2, 1) := by decide +kernel
theorem dX6_wordIn_9 : decode cX6_wordIn 9 = .ok (.isub, 1) := by decide +kernel
theorem dX6_wordIn_10 : decode cX6_wordIn 10 = .ok (.imul, 1) := by decide +kernel
theorem dX6_wordIn_11 : decode cX6_wordIn 11 = .ok (.lshr, 1) := by decide +kernel
theorem dX6_wordIn_12 : decode cX6_wordIn 12 = .ok (.ldc2_w 33, 3) := by decide +kernel
theorem dX6_wordIn_15 : decode cX6_wordIn 15 = .ok (.land, 1) := by decide +kernel
theorem dX6_wordIn_16 : decode cX6_wordIn 16 = .ok (.l2i, 1) := by decide +kernel
theorem dX6_wordIn_17 : decode cX6_wordIn 17 = .ok (.ireturn, 1) := by decide +kernel
theorem dX6_cheapest_0 : decode cX6_cheapest 0 = .ok (.aload_n 0, 1) := by decide +kernel
theorem dX6_cheapest_1 : decode cX6_cheapest 1 = .ok (.invokevirtual 39, 3) := by decide +kernel
theorem dX6_cheapest_4 : decode cX6_cheapest 4 = .ok (.ldc2_w 42, 3) := by decide +kernel
theorem dX6_cheapest_7 : decode cX6_cheapest 7 = .ok (.lstore_n 3, 1) := by decide +kernel
theorem dX6_cheapest_8 : decode cX6_cheapest 8 = .ok (.iconst 0, 1) := by decide +kernel
theorem dX6_cheapest_9 : decode cX6_cheapest 9 = .ok (.istore 5, 2) := by decide +kernel
theorem dX6_cheapest_11 : decode cX6_cheapest 11 = .ok (.iload 5, 2) := by decide +kernel
theorem dX6_cheapest_13 : decode cX6_cheapest 13 = .ok (.bipush 64, 2) := by decide +kernel
theorem dX6_cheapest_15 : decode cX6_cheapest 15 = .ok (.if_icmp .ge 36, 3) := by decide +kernel
theorem dX6_cheapest_18 : decode cX6_cheapest 18 = .ok (.iload 5, 2) := by decide +kernel
theorem dX6_cheapest_20 : decode cX6_cheapest 20 = .ok (.iload_n 1, 1) := by decide +kernel
theorem dX6_cheapest_21 : decode cX6_cheapest 21 = .ok (.iand, 1) := by decide +kernel
theorem dX6_cheapest_22 : decode cX6_cheapest 22 = .ok (.iload_n 1, 1) := by decide +kernel
theorem dX6_cheapest_23 : decode cX6_cheapest 23 = .ok (.if_icmp .ne 22, 3) := by decide +kernel
theorem dX6_cheapest_26 : decode cX6_cheapest 26 = .ok (.iload 5, 2) := by decide +kernel
theorem dX6_cheapest_28 : decode cX6_cheapest 28 = .ok (.iload_n 2, 1) := by decide +kernel
theorem dX6_cheapest_29 : decode cX6_cheapest 29 = .ok (.iand, 1) := by decide +kernel
theorem dX6_cheapest_30 : decode cX6_cheapest 30 = .ok (.ifCond .ne 15, 3) := by decide +kernel
theorem dX6_cheapest_33 : decode cX6_cheapest 33 = .ok (.lload_n 3, 1) := by decide +kernel
theorem dX6_cheapest_34 : decode cX6_cheapest 34 = .ok (.aload_n 0, 1) := by decide +kernel
theorem dX6_cheapest_35 : decode cX6_cheapest 35 = .ok (.getfield 11, 3) := by decide +kernel
theorem dX6_cheapest_38 : decode cX6_cheapest 38 = .ok (.iload 5, 2) := by decide +kernel
theorem dX6_cheapest_40 : decode cX6_cheapest 40 = .ok (.laload, 1) := by decide +kernel
theorem dX6_cheapest_41 : decode cX6_cheapest 41 = .ok (.invokestatic 44, 3) := by decide +kernel
theorem dX6_cheapest_44 : decode cX6_cheapest 44 = .ok (.lstore_n 3, 1) := by decide +kernel
theorem dX6_cheapest_45 : decode cX6_cheapest 45 = .ok (.iinc 5 1, 3) := by decide +kernel
theorem dX6_cheapest_48 : decode cX6_cheapest 48 = .ok (.goto (-37), 3) := by decide +kernel
theorem dX6_cheapest_51 : decode cX6_cheapest 51 = .ok (.lload_n 3, 1) := by decide +kernel
theorem dX6_cheapest_52 : decode cX6_cheapest 52 = .ok (.lreturn, 1) := by decide +kernel
theorem dX6_widest_0 : decode cX6_widest 0 = .ok (.aload_n 0, 1) := by decide +kernel
theorem dX6_widest_1 : decode cX6_widest 1 = .ok (.invokevirtual 39, 3) := by decide +kernel
theorem dX6_widest_4 : decode cX6_widest 4 = .ok (.iconst (-1), 1) := by decide +kernel
theorem dX6_widest_5 : decode cX6_widest 5 = .ok (.istore_n 2, 1) := by decide +kernel
theorem dX6_widest_6 : decode cX6_widest 6 = .ok (.iconst 0, 1) := by decide +kernel
theorem dX6_widest_7 : decode cX6_widest 7 = .ok (.istore_n 3, 1) := by decide +kernel
theorem dX6_widest_8 : decode cX6_widest 8 = .ok (.iload_n 3, 1) := by decide +kernel
theorem dX6_widest_9 : decode cX6_widest 9 = .ok (.bipush 64, 2) := by decide +kernel
theorem dX6_widest_11 : decode cX6_widest 11 = .ok (.if_icmp .ge 35, 3) := by decide +kernel
theorem dX6_widest_14 : decode cX6_widest 14 = .ok (.aload_n 0, 1) := by decide +kernel
theorem dX6_widest_15 : decode cX6_widest 15 = .ok (.iload_n 3, 1) := by decide +kernel
theorem dX6_widest_16 : decode cX6_widest 16 = .ok (.iload_n 1, 1) := by decide +kernel
theorem dX6_widest_17 : decode cX6_widest 17 = .ok (.invokevirtual 48, 3) := by decide +kernel
theorem dX6_widest_20 : decode cX6_widest 20 = .ok (.ifCond .eq 20, 3) := by decide +kernel
theorem dX6_widest_23 : decode cX6_widest 23 = .ok (.iload_n 2, 1) := by decide +kernel
theorem dX6_widest_24 : decode cX6_widest 24 = .ok (.ifCond .lt 14, 3) := by decide +kernel
theorem dX6_widest_27 : decode cX6_widest 27 = .ok (.iload_n 3, 1) := by decide +kernel
theorem dX6_widest_28 : decode cX6_widest 28 = .ok (.invokestatic 52, 3) := by decide +kernel
theorem dX6_widest_31 : decode cX6_widest 31 = .ok (.iload_n 2, 1) := by decide +kernel
theorem dX6_widest_32 : decode cX6_widest 32 = .ok (.invokestatic 52, 3) := by decide +kernel
theorem dX6_widest_35 : decode cX6_widest 35 = .ok (.if_icmp .le 5, 3) := by decide +kernel
theorem dX6_widest_38 : decode cX6_widest 38 = .ok (.iload_n 3, 1) := by decide +kernel
theorem dX6_widest_39 : decode cX6_widest 39 = .ok (.istore_n 2, 1) := by decide +kernel
theorem dX6_widest_40 : decode cX6_widest 40 = .ok (.iinc 3 1, 3) := by decide +kernel
theorem dX6_widest_43 : decode cX6_widest 43 = .ok (.goto (-35), 3) := by decide +kernel
theorem dX6_widest_46 : decode cX6_widest 46 = .ok (.iload_n 2, 1) := by decide +kernel
theorem dX6_widest_47 : decode cX6_widest 47 = .ok (.ireturn, 1) := by decide +kernel
theorem dX6_within_0 : decode cX6_within 0 = .ok (.aload_n 0, 1) := by decide +kernel
theorem dX6_within_1 : decode cX6_within 1 = .ok (.invokevirtual 39, 3) := by decide +kernel
theorem dX6_within_4 : decode cX6_within 4 = .ok (.iconst 0, 1) := by decide +kernel
theorem dX6_within_5 : decode cX6_within 5 = .ok (.istore_n 2, 1) := by decide +kernel
theorem dX6_within_6 : decode cX6_within 6 = .ok (.iconst 0, 1) := by decide +kernel
theorem dX6_within_7 : decode cX6_within 7 = .ok (.istore_n 3, 1) := by decide +kernel
theorem dX6_within_8 : decode cX6_within 8 = .ok (.iload_n 3, 1) := by decide +kernel
theorem dX6_within_9 : decode cX6_within 9 = .ok (.bipush 64, 2) := by decide +kernel
theorem dX6_within_11 : decode cX6_within 11 = .ok (.if_icmp .ge 26, 3) := by decide +kernel
theorem dX6_within_14 : decode cX6_within 14 = .ok (.iload_n 2, 1) := by decide +kernel
theorem dX6_within_15 : decode cX6_within 15 = .ok (.aload_n 0, 1) := by decide +kernel
theorem dX6_within_16 : decode cX6_within 16 = .ok (.iload_n 3, 1) := by decide +kernel
theorem dX6_within_17 : decode cX6_within 17 = .ok (.iload_n 1, 1) := by decide +kernel
theorem dX6_within_18 : decode cX6_within 18 = .ok (.invokevirtual 48, 3) := by decide +kernel
theorem dX6_within_21 : decode cX6_within 21 = .ok (.ifCond .eq 7, 3) := by decide +kernel
theorem dX6_within_24 : decode cX6_within 24 = .ok (.iload_n 3, 1) := by decide +kernel
theorem dX6_within_25 : decode cX6_within 25 = .ok (.goto 4, 3) := by decide +kernel
theorem dX6_within_28 : decode cX6_within 28 = .ok (.iconst 0, 1) := by decide +kernel
theorem dX6_within_29 : decode cX6_within 29 = .ok (.ior, 1) := by decide +kernel
theorem dX6_within_30 : decode cX6_within 30 = .ok (.istore_n 2, 1) := by decide +kernel
theorem dX6_within_31 : decode cX6_within 31 = .ok (.iinc 3 1, 3) := by decide +kernel
theorem dX6_within_34 : decode cX6_within 34 = .ok (.goto (-26), 3) := by decide +kernel
theorem dX6_within_37 : decode cX6_within 37 = .ok (.iload_n 2, 1) := by decide +kernel
theorem dX6_within_38 : decode cX6_within 38 = .ok (.ireturn, 1) := by decide +kernel
theorem dX6_isFor_0 : decode cX6_isFor 0 = .ok (.iload_n 1, 1) := by decide +kernel
theorem dX6_isFor_1 : decode cX6_isFor 1 = .ok (.ifCond .lt 37, 3) := by decide +kernel
theorem dX6_isFor_4 : decode cX6_isFor 4 = .ok (.iload_n 1, 1) := by decide +kernel
theorem dX6_isFor_5 : decode cX6_isFor 5 = .ok (.bipush 64, 2) := by decide +kernel
theorem dX6_isFor_7 : decode cX6_isFor 7 = .ok (.if_icmp .ge 31, 3) := by decide +kernel
theorem dX6_isFor_10 : decode cX6_isFor 10 = .ok (.aload_n 0, 1) := by decide +kernel
theorem dX6_isFor_11 : decode cX6_isFor 11 = .ok (.getfield 11, 3) := by decide +kernel
theorem dX6_isFor_14 : decode cX6_isFor 14 = .ok (.iload_n 1, 1) := by decide +kernel
theorem dX6_isFor_15 : decode cX6_isFor 15 = .ok (.laload, 1) := by decide +kernel
theorem dX6_isFor_16 : decode cX6_isFor 16 = .ok (.lconst 0, 1) := by decide +kernel
theorem dX6_isFor_17 : decode cX6_isFor 17 = .ok (.lcmp, 1) := by decide +kernel
theorem dX6_isFor_18 : decode cX6_isFor 18 = .ok (.ifCond .lt 20, 3) := by decide +kernel
theorem dX6_isFor_21 : decode cX6_isFor 21 = .ok (.aload_n 0, 1) := by decide +kernel
theorem dX6_isFor_22 : decode cX6_isFor 22 = .ok (.getfield 11, 3) := by decide +kernel
theorem dX6_isFor_25 : decode cX6_isFor 25 = .ok (.iload_n 1, 1) := by decide +kernel
theorem dX6_isFor_26 : decode cX6_isFor 26 = .ok (.laload, 1) := by decide +kernel
theorem dX6_isFor_27 : decode cX6_isFor 27 = .ok (.invokestatic 58, 3) := by decide +kernel
theorem dX6_isFor_30 : decode cX6_isFor 30 = .ok (.iload_n 2, 1) := by decide +kernel
theorem dX6_isFor_31 : decode cX6_isFor 31 = .ok (.if_icmp .gt 7, 3) := by decide +kernel
theorem dX6_isFor_34 : decode cX6_isFor 34 = .ok (.iconst 1, 1) := by decide +kernel
theorem dX6_isFor_35 : decode cX6_isFor 35 = .ok (.goto 4, 3) := by decide +kernel
theorem dX6_isFor_38 : decode cX6_isFor 38 = .ok (.iconst 0, 1) := by decide +kernel
theorem dX6_isFor_39 : decode cX6_isFor 39 = .ok (.ireturn, 1) := by decide +kernel
theorem dX6_firstOf_0 : decode cX6_firstOf 0 = .ok (.lload_n 0, 1) := by decide +kernel
theorem dX6_firstOf_1 : decode cX6_firstOf 1 = .ok (.lconst 0, 1) := by decide +kernel
theorem dX6_firstOf_2 : decode cX6_firstOf 2 = .ok (.lcmp, 1) := by decide +kernel
theorem dX6_firstOf_3 : decode cX6_firstOf 3 = .ok (.ifCond .ge 7, 3) := by decide +kernel
theorem dX6_firstOf_6 : decode cX6_firstOf 6 = .ok (.lload_n 2, 1) := by decide +kernel
theorem dX6_firstOf_7 : decode cX6_firstOf 7 = .ok (.goto 18, 3) := by decide +kernel
theorem dX6_firstOf_10 : decode cX6_firstOf 10 = .ok (.lload_n 2, 1) := by decide +kernel
theorem dX6_firstOf_11 : decode cX6_firstOf 11 = .ok (.lconst 0, 1) := by decide +kernel
theorem dX6_firstOf_12 : decode cX6_firstOf 12 = .ok (.lcmp, 1) := by decide +kernel
theorem dX6_firstOf_13 : decode cX6_firstOf 13 = .ok (.ifCond .ge 7, 3) := by decide +kernel
theorem dX6_firstOf_16 : decode cX6_firstOf 16 = .ok (.lload_n 0, 1) := by decide +kernel
theorem dX6_firstOf_17 : decode cX6_firstOf 17 = .ok (.goto 8, 3) := by decide +kernel
theorem dX6_firstOf_20 : decode cX6_firstOf 20 = .ok (.lload_n 0, 1) := by decide +kernel
theorem dX6_firstOf_21 : decode cX6_firstOf 21 = .ok (.lload_n 2, 1) := by decide +kernel
theorem dX6_firstOf_22 : decode cX6_firstOf 22 = .ok (.invokestatic 61, 3) := by decide +kernel
theorem dX6_firstOf_25 : decode cX6_firstOf 25 = .ok (.lreturn, 1) := by decide +kernel
theorem dX6_refresh_0 : decode cX6_refresh 0 = .ok (.aload_n 0, 1) := by decide +kernel
theorem dX6_refresh_1 : decode cX6_refresh 1 = .ok (.getfield 21, 3) := by decide +kernel
theorem dX6_refresh_4 : decode cX6_refresh 4 = .ok (.aload_n 0, 1) := by decide +kernel
theorem dX6_refresh_5 : decode cX6_refresh 5 = .ok (.getfield 25, 3) := by decide +kernel
theorem dX6_refresh_8 : decode cX6_refresh 8 = .ok (.getfield 66, 3) := by decide +kernel
theorem dX6_refresh_11 : decode cX6_refresh 11 = .ok (.if_icmp .ne 4, 3) := by decide +kernel
theorem dX6_refresh_14 : decode cX6_refresh 14 = .ok (.return_, 1) := by decide +kernel
theorem dX6_refresh_15 : decode cX6_refresh 15 = .ok (.aload_n 0, 1) := by decide +kernel
theorem dX6_refresh_16 : decode cX6_refresh 16 = .ok (.aload_n 0, 1) := by decide +kernel
theorem dX6_refresh_17 : decode cX6_refresh 17 = .ok (.getfield 25, 3) := by decide +kernel
theorem dX6_refresh_20 : decode cX6_refresh 20 = .ok (.getfield 66, 3) := by decide +kernel
theorem dX6_refresh_23 : decode cX6_refresh 23 = .ok (.putfield 21, 3) := by decide +kernel
theorem dX6_refresh_26 : decode cX6_refresh 26 = .ok (.aload_n 0, 1) := by decide +kernel
theorem dX6_refresh_27 : decode cX6_refresh 27 = .ok (.getfield 11, 3) := by decide +kernel
theorem dX6_refresh_30 : decode cX6_refresh 30 = .ok (.ldc2_w 42, 3) := by decide +kernel
theorem dX6_refresh_33 : decode cX6_refresh 33 = .ok (.invokestatic 69, 3) := by decide +kernel
theorem dX6_refresh_36 : decode cX6_refresh 36 = .ok (.aload_n 0, 1) := by decide +kernel
theorem dX6_refresh_37 : decode cX6_refresh 37 = .ok (.getfield 15, 3) := by decide +kernel
theorem dX6_refresh_40 : decode cX6_refresh 40 = .ok (.ldc2_w 42, 3) := by decide +kernel
theorem dX6_refresh_43 : decode cX6_refresh 43 = .ok (.invokestatic 69, 3) := by decide +kernel
theorem dX6_refresh_46 : decode cX6_refresh 46 = .ok (.aload_n 0, 1) := by decide +kernel
theorem dX6_refresh_47 : decode cX6_refresh 47 = .ok (.getfield 15, 3) := by decide +kernel
theorem dX6_refresh_50 : decode cX6_refresh 50 = .ok (.sipush 192, 3) := by decide +kernel
theorem dX6_refresh_53 : decode cX6_refresh 53 = .ok (.lconst 0, 1) := by decide +kernel
theorem dX6_refresh_54 : decode cX6_refresh 54 = .ok (.lastore, 1) := by decide +kernel
theorem dX6_refresh_55 : decode cX6_refresh 55 = .ok (.iconst 0, 1) := by decide +kernel
theorem dX6_refresh_56 : decode cX6_refresh 56 = .ok (.istore_n 1, 1) := by decide +kernel
theorem dX6_refresh_57 : decode cX6_refresh 57 = .ok (.iload_n 1, 1) := by decide +kernel
theorem dX6_refresh_58 : decode cX6_refresh 58 = .ok (.bipush 6, 2) := by decide +kernel
theorem dX6_refresh_60 : decode cX6_refresh 60 = .ok (.if_icmp .ge 83, 3) := by decide +kernel
theorem dX6_refresh_63 : decode cX6_refresh 63 = .ok (.aload_n 0, 1) := by decide +kernel
theorem dX6_refresh_64 : decode cX6_refresh 64 = .ok (.getfield 18, 3) := by decide +kernel
theorem dX6_refresh_67 : decode cX6_refresh 67 = .ok (.ldc2_w 42, 3) := by decide +kernel
theorem dX6_refresh_70 : decode cX6_refresh 70 = .ok (.invokestatic 69, 3) := by decide +kernel
theorem dX6_refresh_73 : decode cX6_refresh 73 = .ok (.iconst 0, 1) := by decide +kernel
theorem dX6_refresh_74 : decode cX6_refresh 74 = .ok (.istore_n 2, 1) := by decide +kernel
theorem dX6_refresh_75 : decode cX6_refresh 75 = .ok (.iload_n 2, 1) := by decide +kernel
theorem dX6_refresh_76 : decode cX6_refresh 76 = .ok (.aload_n 0, 1) := by decide +kernel
theorem dX6_refresh_77 : decode cX6_refresh 77 = .ok (.getfield 25, 3) := by decide +kernel
theorem dX6_refresh_80 : decode cX6_refresh 80 = .ok (.getfield 75, 3) := by decide +kernel
theorem dX6_refresh_83 : decode cX6_refresh 83 = .ok (.if_icmp .ge 29, 3) := by decide +kernel
theorem dX6_refresh_86 : decode cX6_refresh 86 = .ok (.iconst 0, 1) := by decide +kernel
theorem dX6_refresh_87 : decode cX6_refresh 87 = .ok (.istore_n 3, 1) := by decide +kernel
theorem dX6_refresh_88 : decode cX6_refresh 88 = .ok (.iload_n 3, 1) := by decide +kernel
theorem dX6_refresh_89 : decode cX6_refresh 89 = .ok (.iconst 3, 1) := by decide +kernel
theorem dX6_refresh_90 : decode cX6_refresh 90 = .ok (.if_icmp .gt 16, 3) := by decide +kernel
theorem dX6_refresh_93 : decode cX6_refresh 93 = .ok (.aload_n 0, 1) := by decide +kernel
theorem dX6_refresh_94 : decode cX6_refresh 94 = .ok (.iload_n 3, 1) := by decide +kernel
theorem dX6_refresh_95 : decode cX6_refresh 95 = .ok (.iload_n 2, 1) := by decide +kernel
theorem dX6_refresh_96 : decode cX6_refresh 96 = .ok (.iload_n 1, 1) := by decide +kernel
theorem dX6_refresh_97 : decode cX6_refresh 97 = .ok (.invokevirtual 78, 3) := by decide +kernel
theorem dX6_refresh_100 : decode cX6_refresh 100 = .ok (.iinc 3 1, 3) := by decide +kernel
theorem dX6_refresh_103 : decode cX6_refresh 103 = .ok (.goto (-15), 3) := by decide +kernel
theorem dX6_refresh_106 : decode cX6_refresh 106 = .ok (.iinc 2 1, 3) := by decide +kernel
theorem dX6_refresh_109 : decode cX6_refresh 109 = .ok (.goto (-34), 3) := by decide +kernel
theorem dX6_refresh_112 : decode cX6_refresh 112 = .ok (.aload_n 0, 1) := by decide +kernel
theorem dX6_refresh_113 : decode cX6_refresh 113 = .ok (.getfield 15, 3) := by decide +kernel
theorem dX6_refresh_116 : decode cX6_refresh 116 = .ok (.astore_n 2, 1) := by decide +kernel
theorem dX6_refresh_117 : decode cX6_refresh 117 = .ok (.aload_n 0, 1) := by decide +kernel
theorem dX6_refresh_118 : decode cX6_refresh 118 = .ok (.aload_n 0, 1) := by decide +kernel
theorem dX6_refresh_119 : decode cX6_refresh 119 = .ok (.getfield 18, 3) := by decide +kernel
theorem dX6_refresh_122 : decode cX6_refresh 122 = .ok (.putfield 15, 3) := by decide +kernel
theorem dX6_refresh_125 : decode cX6_refresh 125 = .ok (.aload_n 0, 1) := by decide +kernel
theorem dX6_refresh_126 : decode cX6_refresh 126 = .ok (.aload_n 2, 1) := by decide +kernel
theorem dX6_refresh_127 : decode cX6_refresh 127 = .ok (.putfield 18, 3) := by decide +kernel
theorem dX6_refresh_130 : decode cX6_refresh 130 = .ok (.aload_n 0, 1) := by decide +kernel
theorem dX6_refresh_131 : decode cX6_refresh 131 = .ok (.iload_n 1, 1) := by decide +kernel
theorem dX6_refresh_132 : decode cX6_refresh 132 = .ok (.iconst 1, 1) := by decide +kernel
theorem dX6_refresh_133 : decode cX6_refresh 133 = .ok (.iadd, 1) := by decide +kernel
theorem dX6_refresh_134 : decode cX6_refresh 134 = .ok (.invokevirtual 82, 3) := by decide +kernel
theorem dX6_refresh_137 : decode cX6_refresh 137 = .ok (.iinc 1 1, 3) := by decide +kernel
theorem dX6_refresh_140 : decode cX6_refresh 140 = .ok (.goto (-83), 3) := by decide +kernel
theorem dX6_refresh_143 : decode cX6_refresh 143 = .ok (.return_, 1) := by decide +kernel
theorem dX6_lengthen_0 : decode cX6_lengthen 0 = .ok (.aload_n 0, 1) := by decide +kernel
theorem dX6_lengthen_1 : decode cX6_lengthen 1 = .ok (.getfield 25, 3) := by decide +kernel
theorem dX6_lengthen_4 : decode cX6_lengthen 4 = .ok (.iload_n 2, 1) := by decide +kernel
theorem dX6_lengthen_5 : decode cX6_lengthen 5 = .ok (.iconst 2, 1) := by decide +kernel
theorem dX6_lengthen_6 : decode cX6_lengthen 6 = .ok (.invokevirtual 86, 3) := by decide +kernel
theorem dX6_lengthen_9 : decode cX6_lengthen 9 = .ok (.istore 4, 2) := by decide +kernel
theorem dX6_lengthen_11 : decode cX6_lengthen 11 = .ok (.iload_n 1, 1) := by decide +kernel
theorem dX6_lengthen_12 : decode cX6_lengthen 12 = .ok (.iload 4, 2) := by decide +kernel
theorem dX6_lengthen_14 : decode cX6_lengthen 14 = .ok (.invokestatic 90, 3) := by decide +kernel
theorem dX6_lengthen_17 : decode cX6_lengthen 17 = .ok (.ifCond .ne 4, 3) := by decide +kernel
theorem dX6_lengthen_20 : decode cX6_lengthen 20 = .ok (.return_, 1) := by decide +kernel
theorem dX6_lengthen_21 : decode cX6_lengthen 21 = .ok (.aload_n 0, 1) := by decide +kernel
theorem dX6_lengthen_22 : decode cX6_lengthen 22 = .ok (.getfield 25, 3) := by decide +kernel
theorem dX6_lengthen_25 : decode cX6_lengthen 25 = .ok (.iload_n 2, 1) := by decide +kernel
theorem dX6_lengthen_26 : decode cX6_lengthen 26 = .ok (.iconst 1, 1) := by decide +kernel
theorem dX6_lengthen_27 : decode cX6_lengthen 27 = .ok (.invokevirtual 86, 3) := by decide +kernel
theorem dX6_lengthen_30 : decode cX6_lengthen 30 = .ok (.istore 5, 2) := by decide +kernel
theorem dX6_lengthen_32 : decode cX6_lengthen 32 = .ok (.iconst (-1), 1) := by decide +kernel
theorem dX6_lengthen_33 : decode cX6_lengthen 33 = .ok (.istore 6, 2) := by decide +kernel
theorem dX6_lengthen_35 : decode cX6_lengthen 35 = .ok (.iconst 0, 1) := by decide +kernel
theorem dX6_lengthen_36 : decode cX6_lengthen 36 = .ok (.istore 7, 2) := by decide +kernel
theorem dX6_lengthen_38 : decode cX6_lengthen 38 = .ok (.iload 7, 2) := by decide +kernel
theorem dX6_lengthen_40 : decode cX6_lengthen 40 = .ok (.bipush 64, 2) := by decide +kernel
theorem dX6_lengthen_42 : decode cX6_lengthen 42 = .ok (.if_icmp .ge 125, 3) := by decide +kernel
theorem dX6_lengthen_45 : decode cX6_lengthen 45 = .ok (.aload_n 0, 1) := by decide +kernel
theorem dX6_lengthen_46 : decode cX6_lengthen 46 = .ok (.getfield 15, 3) := by decide +kernel
theorem dX6_lengthen_49 : decode cX6_lengthen 49 = .ok (.iload_n 1, 1) := by decide +kernel
theorem dX6_lengthen_50 : decode cX6_lengthen 50 = .ok (.bipush 64, 2) := by decide +kernel
theorem dX6_lengthen_52 : decode cX6_lengthen 52 = .ok (.imul, 1) := by decide +kernel
theorem dX6_lengthen_53 : decode cX6_lengthen 53 = .ok (.iload 7, 2) := by decide +kernel
theorem dX6_lengthen_55 : decode cX6_lengthen 55 = .ok (.iadd, 1) := by decide +kernel
theorem dX6_lengthen_56 : decode cX6_lengthen 56 = .ok (.laload, 1) := by decide +kernel
theorem dX6_lengthen_57 : decode cX6_lengthen 57 = .ok (.lstore 8, 2) := by decide +kernel
theorem dX6_lengthen_59 : decode cX6_lengthen 59 = .ok (.lload 8, 2) := by decide +kernel
theorem dX6_lengthen_61 : decode cX6_lengthen 61 = .ok (.lconst 0, 1) := by decide +kernel
theorem dX6_lengthen_62 : decode cX6_lengthen 62 = .ok (.lcmp, 1) := by decide +kernel
theorem dX6_lengthen_63 : decode cX6_lengthen 63 = .ok (.ifCond .lt 98, 3) := by decide +kernel
theorem dX6_lengthen_66 : decode cX6_lengthen 66 = .ok (.iload 6, 2) := by decide +kernel
theorem dX6_lengthen_68 : decode cX6_lengthen 68 = .ok (.ifCond .ge 16, 3) := by decide +kernel
theorem dX6_lengthen_71 : decode cX6_lengthen 71 = .ok (.aload_n 0, 1) := by decide +kernel
theorem dX6_lengthen_72 : decode cX6_lengthen 72 = .ok (.getfield 29, 3) := by decide +kernel
theorem dX6_lengthen_75 : decode cX6_lengthen 75 = .ok (.iload_n 2, 1) := by decide +kernel
theorem dX6_lengthen_76 : decode cX6_lengthen 76 = .ok (.iload_n 1, 1) := by decide +kernel
theorem dX6_lengthen_77 : decode cX6_lengthen 77 = .ok (.iload_n 3, 1) := by decide +kernel
theorem dX6_lengthen_78 : decode cX6_lengthen 78 = .ok (.invokevirtual 95, 3) := by decide +kernel
theorem dX6_lengthen_81 : decode cX6_lengthen 81 = .ok (.goto 5, 3) := by decide +kernel
theorem dX6_lengthen_84 : decode cX6_lengthen 84 = .ok (.iload 6, 2) := by decide +kernel
theorem dX6_lengthen_86 : decode cX6_lengthen 86 = .ok (.istore 6, 2) := by decide +kernel
theorem dX6_lengthen_88 : decode cX6_lengthen 88 = .ok (.lload 8, 2) := by decide +kernel
theorem dX6_lengthen_90 : decode cX6_lengthen 90 = .ok (.bipush 28, 2) := by decide +kernel
theorem dX6_lengthen_92 : decode cX6_lengthen 92 = .ok (.lshr, 1) := by decide +kernel
theorem dX6_lengthen_93 : decode cX6_lengthen 93 = .ok (.iload 6, 2) := by decide +kernel
theorem dX6_lengthen_95 : decode cX6_lengthen 95 = .ok (.i2l, 1) := by decide +kernel
theorem dX6_lengthen_96 : decode cX6_lengthen 96 = .ok (.ladd, 1) := by decide +kernel
theorem dX6_lengthen_97 : decode cX6_lengthen 97 = .ok (.bipush 28, 2) := by decide +kernel
theorem dX6_lengthen_99 : decode cX6_lengthen 99 = .ok (.lshl, 1) := by decide +kernel
theorem dX6_lengthen_100 : decode cX6_lengthen 100 = .ok (.lload 8, 2) := by decide +kernel
theorem dX6_lengthen_102 : decode cX6_lengthen 102 = .ok (.ldc2_w 101, 3) := by decide +kernel
theorem dX6_lengthen_105 : decode cX6_lengthen 105 = .ok (.land, 1) := by decide +kernel
theorem dX6_lengthen_106 : decode cX6_lengthen 106 = .ok (.iconst 4, 1) := by decide +kernel
theorem dX6_lengthen_107 : decode cX6_lengthen 107 = .ok (.lshl, 1) := by decide +kernel
theorem dX6_lengthen_108 : decode cX6_lengthen 108 = .ok (.lor, 1) := by decide +kernel
theorem dX6_lengthen_109 : decode cX6_lengthen 109 = .ok (.iload_n 2, 1) := by decide +kernel
theorem dX6_lengthen_110 : decode cX6_lengthen 110 = .ok (.i2l, 1) := by decide +kernel
theorem dX6_lengthen_111 : decode cX6_lengthen 111 = .ok (.lor, 1) := by decide +kernel
theorem dX6_lengthen_112 : decode cX6_lengthen 112 = .ok (.lstore 10, 2) := by decide +kernel
theorem dX6_lengthen_114 : decode cX6_lengthen 114 = .ok (.iload 4, 2) := by decide +kernel
theorem dX6_lengthen_116 : decode cX6_lengthen 116 = .ok (.bipush 64, 2) := by decide +kernel
theorem dX6_lengthen_118 : decode cX6_lengthen 118 = .ok (.imul, 1) := by decide +kernel
theorem dX6_lengthen_119 : decode cX6_lengthen 119 = .ok (.iload 7, 2) := by decide +kernel
theorem dX6_lengthen_121 : decode cX6_lengthen 121 = .ok (.iload 5, 2) := by decide +kernel
theorem dX6_lengthen_123 : decode cX6_lengthen 123 = .ok (.ior, 1) := by decide +kernel
theorem dX6_lengthen_124 : decode cX6_lengthen 124 = .ok (.iadd, 1) := by decide +kernel
theorem dX6_lengthen_125 : decode cX6_lengthen 125 = .ok (.istore 12, 2) := by decide +kernel
theorem dX6_lengthen_127 : decode cX6_lengthen 127 = .ok (.iload 12, 2) := by decide +kernel
theorem dX6_lengthen_129 : decode cX6_lengthen 129 = .ok (.ifCond .lt 32, 3) := by decide +kernel
theorem dX6_lengthen_132 : decode cX6_lengthen 132 = .ok (.iload 12, 2) := by decide +kernel
theorem dX6_lengthen_134 : decode cX6_lengthen 134 = .ok (.aload_n 0, 1) := by decide +kernel
theorem dX6_lengthen_135 : decode cX6_lengthen 135 = .ok (.getfield 18, 3) := by decide +kernel
theorem dX6_lengthen_138 : decode cX6_lengthen 138 = .ok (.arraylength, 1) := by decide +kernel
theorem dX6_lengthen_139 : decode cX6_lengthen 139 = .ok (.if_icmp .ge 22, 3) := by decide +kernel
theorem dX6_lengthen_142 : decode cX6_lengthen 142 = .ok (.aload_n 0, 1) := by decide +kernel
theorem dX6_lengthen_143 : decode cX6_lengthen 143 = .ok (.getfield 18, 3) := by decide +kernel
theorem dX6_lengthen_146 : decode cX6_lengthen 146 = .ok (.iload 12, 2) := by decide +kernel
theorem dX6_lengthen_148 : decode cX6_lengthen 148 = .ok (.aload_n 0, 1) := by decide +kernel
theorem dX6_lengthen_149 : decode cX6_lengthen 149 = .ok (.getfield 18, 3) := by decide +kernel
theorem dX6_lengthen_152 : decode cX6_lengthen 152 = .ok (.iload 12, 2) := by decide +kernel
theorem dX6_lengthen_154 : decode cX6_lengthen 154 = .ok (.laload, 1) := by decide +kernel
theorem dX6_lengthen_155 : decode cX6_lengthen 155 = .ok (.lload 10, 2) := by decide +kernel
theorem dX6_lengthen_157 : decode cX6_lengthen 157 = .ok (.invokestatic 44, 3) := by decide +kernel
theorem dX6_lengthen_160 : decode cX6_lengthen 160 = .ok (.lastore, 1) := by decide +kernel
theorem dX6_lengthen_161 : decode cX6_lengthen 161 = .ok (.iinc 7 1, 3) := by decide +kernel
theorem dX6_lengthen_164 : decode cX6_lengthen 164 = .ok (.goto (-126), 3) := by decide +kernel
theorem dX6_lengthen_167 : decode cX6_lengthen 167 = .ok (.return_, 1) := by decide +kernel
theorem dX6_settle_0 : decode cX6_settle 0 = .ok (.iconst 0, 1) := by decide +kernel
theorem dX6_settle_1 : decode cX6_settle 1 = .ok (.istore_n 2, 1) := by decide +kernel
theorem dX6_settle_2 : decode cX6_settle 2 = .ok (.iload_n 2, 1) := by decide +kernel
theorem dX6_settle_3 : decode cX6_settle 3 = .ok (.iconst 3, 1) := by decide +kernel
theorem dX6_settle_4 : decode cX6_settle 4 = .ok (.if_icmp .ge 73, 3) := by decide +kernel
theorem dX6_settle_7 : decode cX6_settle 7 = .ok (.iconst 0, 1) := by decide +kernel
theorem dX6_settle_8 : decode cX6_settle 8 = .ok (.istore_n 3, 1) := by decide +kernel
theorem dX6_settle_9 : decode cX6_settle 9 = .ok (.iload_n 3, 1) := by decide +kernel
theorem dX6_settle_10 : decode cX6_settle 10 = .ok (.bipush 64, 2) := by decide +kernel
theorem dX6_settle_12 : decode cX6_settle 12 = .ok (.if_icmp .ge 59, 3) := by decide +kernel
theorem dX6_settle_15 : decode cX6_settle 15 = .ok (.aload_n 0, 1) := by decide +kernel
theorem dX6_settle_16 : decode cX6_settle 16 = .ok (.getfield 15, 3) := by decide +kernel
theorem dX6_settle_19 : decode cX6_settle 19 = .ok (.iload_n 2, 1) := by decide +kernel
theorem dX6_settle_20 : decode cX6_settle 20 = .ok (.bipush 64, 2) := by decide +kernel
theorem dX6_settle_22 : decode cX6_settle 22 = .ok (.imul, 1) := by decide +kernel
theorem dX6_settle_23 : decode cX6_settle 23 = .ok (.iload_n 3, 1) := by decide +kernel
theorem dX6_settle_24 : decode cX6_settle 24 = .ok (.iadd, 1) := by decide +kernel
theorem dX6_settle_25 : decode cX6_settle 25 = .ok (.laload, 1) := by decide +kernel
theorem dX6_settle_26 : decode cX6_settle 26 = .ok (.lstore 4, 2) := by decide +kernel
theorem dX6_settle_28 : decode cX6_settle 28 = .ok (.lload 4, 2) := by decide +kernel
theorem dX6_settle_30 : decode cX6_settle 30 = .ok (.lconst 0, 1) := by decide +kernel
theorem dX6_settle_31 : decode cX6_settle 31 = .ok (.lcmp, 1) := by decide +kernel
theorem dX6_settle_32 : decode cX6_settle 32 = .ok (.ifCond .lt 33, 3) := by decide +kernel
theorem dX6_settle_35 : decode cX6_settle 35 = .ok (.iload_n 2, 1) := by decide +kernel
theorem dX6_settle_36 : decode cX6_settle 36 = .ok (.invokestatic 103, 3) := by decide +kernel
theorem dX6_settle_39 : decode cX6_settle 39 = .ok (.ifCond .eq 26, 3) := by decide +kernel
theorem dX6_settle_42 : decode cX6_settle 42 = .ok (.aload_n 0, 1) := by decide +kernel
theorem dX6_settle_43 : decode cX6_settle 43 = .ok (.getfield 11, 3) := by decide +kernel
theorem dX6_settle_46 : decode cX6_settle 46 = .ok (.iload_n 3, 1) := by decide +kernel
theorem dX6_settle_47 : decode cX6_settle 47 = .ok (.aload_n 0, 1) := by decide +kernel
theorem dX6_settle_48 : decode cX6_settle 48 = .ok (.getfield 11, 3) := by decide +kernel
theorem dX6_settle_51 : decode cX6_settle 51 = .ok (.iload_n 3, 1) := by decide +kernel
theorem dX6_settle_52 : decode cX6_settle 52 = .ok (.laload, 1) := by decide +kernel
theorem dX6_settle_53 : decode cX6_settle 53 = .ok (.lload 4, 2) := by decide +kernel
theorem dX6_settle_55 : decode cX6_settle 55 = .ok (.iload_n 1, 1) := by decide +kernel
theorem dX6_settle_56 : decode cX6_settle 56 = .ok (.i2l, 1) := by decide +kernel
theorem dX6_settle_57 : decode cX6_settle 57 = .ok (.bipush 24, 2) := by decide +kernel
theorem dX6_settle_59 : decode cX6_settle 59 = .ok (.lshl, 1) := by decide +kernel
theorem dX6_settle_60 : decode cX6_settle 60 = .ok (.lor, 1) := by decide +kernel
theorem dX6_settle_61 : decode cX6_settle 61 = .ok (.invokestatic 44, 3) := by decide +kernel
theorem dX6_settle_64 : decode cX6_settle 64 = .ok (.lastore, 1) := by decide +kernel
theorem dX6_settle_65 : decode cX6_settle 65 = .ok (.iinc 3 1, 3) := by decide +kernel
theorem dX6_settle_68 : decode cX6_settle 68 = .ok (.goto (-59), 3) := by decide +kernel
theorem dX6_settle_71 : decode cX6_settle 71 = .ok (.iinc 2 1, 3) := by decide +kernel
theorem dX6_settle_74 : decode cX6_settle 74 = .ok (.goto (-72), 3) := by decide +kernel
theorem dX6_settle_77 : decode cX6_settle 77 = .ok (.return_, 1) := by decide +kernel
theorem dX7_init_0 : decode cX7_init 0 = .ok (.aload_n 0, 1) := by decide +kernel
theorem dX7_init_1 : decode cX7_init 1 = .ok (.invokespecial 3, 3) := by decide +kernel
theorem dX7_init_4 : decode cX7_init 4 = .ok (.aload_n 0, 1) := by decide +kernel
theorem dX7_init_5 : decode cX7_init 5 = .ok (.bipush 6, 2) := by decide +kernel
theorem dX7_init_7 : decode cX7_init 7 = .ok (.newarray .int, 2) := by decide +kernel
theorem dX7_init_9 : decode cX7_init 9 = .ok (.putfield 11, 3) := by decide +kernel
theorem dX7_init_12 : decode cX7_init 12 = .ok (.aload_n 0, 1) := by decide +kernel
theorem dX7_init_13 : decode cX7_init 13 = .ok (.bipush 6, 2) := by decide +kernel
theorem dX7_init_15 : decode cX7_init 15 = .ok (.newarray .int, 2) := by decide +kernel
theorem dX7_init_17 : decode cX7_init 17 = .ok (.putfield 15, 3) := by decide +kernel
theorem dX7_init_20 : decode cX7_init 20 = .ok (.aload_n 0, 1) := by decide +kernel
theorem dX7_init_21 : decode cX7_init 21 = .ok (.bipush 6, 2) := by decide +kernel
theorem dX7_init_23 : decode cX7_init 23 = .ok (.newarray .int, 2) := by decide +kernel
theorem dX7_init_25 : decode cX7_init 25 = .ok (.putfield 18, 3) := by decide +kernel
theorem dX7_init_28 : decode cX7_init 28 = .ok (.aload_n 0, 1) := by decide +kernel
theorem dX7_init_29 : decode cX7_init 29 = .ok (.bipush 6, 2) := by decide +kernel
theorem dX7_init_31 : decode cX7_init 31 = .ok (.bipush 60, 2) := by decide +kernel
theorem dX7_init_33 : decode cX7_init 33 = .ok (.multianewarray 21 2, 4) := by decide +kernel
theorem dX7_init_37 : decode cX7_init 37 = .ok (.putfield 23, 3) := by decide +kernel
theorem dX7_init_40 : decode cX7_init 40 = .ok (.aload_n 0, 1) := by decide +kernel
theorem dX7_init_41 : decode cX7_init 41 = .ok (.getfield 11, 3) := by decide +kernel
theorem dX7_init_44 : decode cX7_init 44 = .ok (.iconst (-1), 1) := by decide +kernel
theorem dX7_init_45 : decode cX7_init 45 = .ok (.invokestatic 26, 3) := by decide +kernel
theorem dX7_init_48 : decode cX7_init 48 = .ok (.return_, 1) := by decide +kernel
theorem dX7_has_0 : decode cX7_has 0 = .ok (.iload_n 1, 1) := by decide +kernel
theorem dX7_has_1 : decode cX7_has 1 = .ok (.ifCond .lt 13, 3) := by decide +kernel
theorem dX7_has_4 : decode cX7_has 4 = .ok (.iload_n 1, 1) := by decide +kernel
theorem dX7_has_5 : decode cX7_has 5 = .ok (.bipush 6, 2) := by decide +kernel
theorem dX7_has_7 : decode cX7_has 7 = .ok (.if_icmp .ge 7, 3) := by decide +kernel
theorem dX7_has_10 : decode cX7_has 10 = .ok (.iconst 1, 1) := by decide +kernel
theorem dX7_has_11 : decode cX7_has 11 = .ok (.goto 4, 3) := by decide +kernel
theorem dX7_has_14 : decode cX7_has 14 = .ok (.iconst 0, 1) := by decide +kernel
theorem dX7_has_15 : decode cX7_has 15 = .ok (.ireturn, 1) := by decide +kernel
theorem dX7_refusal_0 : decode cX7_refusal 0 = .ok (.aload_n 0, 1) := by decide +kernel
theorem dX7_refusal_1 : decode cX7_refusal 1 = .ok (.iload_n 1, 1) := by decide +kernel
theorem dX7_refusal_2 : decode cX7_refusal 2 = .ok (.invokevirtual 32, 3) := by decide +kernel
theorem dX7_refusal_5 : decode cX7_refusal 5 = .ok (.ifCond .ne 5, 3) := by decide +kernel
theorem dX7_refusal_8 : decode cX7_refusal 8 = .ok (.iconst (-1), 1) := by decide +kernel
theorem dX7_refusal_9 : decode cX7_refusal 9 = .ok (.ireturn, 1) := by decide +kernel
theorem dX7_refusal_10 : decode cX7_refusal 10 = .ok (.aload_n 0, 1) := by decide +kernel
theorem dX7_refusal_11 : decode cX7_refusal 11 = .ok (.getfield 11, 3) := by decide +kernel
theorem dX7_refusal_14 : decode cX7_refusal 14 = .ok (.iload_n 1, 1) := by decide +kernel
theorem dX7_refusal_15 : decode cX7_refusal 15 = .ok (.iaload, 1) := by decide +kernel
theorem dX7_refusal_16 : decode cX7_refusal 16 = .ok (.iconst (-1), 1) := by decide +kernel
theorem dX7_refusal_17 : decode cX7_refusal 17 = .ok (.if_icmp .ne 6, 3) := by decide +kernel
theorem dX7_refusal_20 : decode cX7_refusal 20 = .ok (.bipush (-11), 2) := by decide +kernel
theorem dX7_refusal_22 : decode cX7_refusal 22 = .ok (.ireturn, 1) := by decide +kernel
theorem dX7_refusal_23 : decode cX7_refusal 23 = .ok (.aload_n 0, 1) := by decide +kernel
theorem dX7_refusal_24 : decode cX7_refusal 24 = .ok (.getfield 11, 3) := by decide +kernel
theorem dX7_refusal_27 : decode cX7_refusal 27 = .ok (.iload_n 1, 1) := by decide +kernel
theorem dX7_refusal_28 : decode cX7_refusal 28 = .ok (.iaload, 1) := by decide +kernel
theorem dX7_refusal_29 : decode cX7_refusal 29 = .ok (.iload_n 2, 1) := by decide +kernel
theorem dX7_refusal_30 : decode cX7_refusal 30 = .ok (.if_icmp .ne 7, 3) := by decide +kernel
theorem dX7_refusal_33 : decode cX7_refusal 33 = .ok (.iconst 0, 1) := by decide +kernel
theorem dX7_refusal_34 : decode cX7_refusal 34 = .ok (.goto 5, 3) := by decide +kernel
theorem dX7_refusal_37 : decode cX7_refusal 37 = .ok (.bipush (-12), 2) := by decide +kernel
theorem dX7_refusal_39 : decode cX7_refusal 39 = .ok (.ireturn, 1) := by decide +kernel
theorem dX7_placeRefusal_0 : decode cX7_placeRefusal 0 = .ok (.aload_n 0, 1) := by decide +kernel
theorem dX7_placeRefusal_1 : decode cX7_placeRefusal 1 = .ok (.iload_n 1, 1) := by decide +kernel
theorem dX7_placeRefusal_2 : decode cX7_placeRefusal 2 = .ok (.invokevirtual 32, 3) := by decide +kernel
theorem dX7_placeRefusal_5 : decode cX7_placeRefusal 5 = .ok (.ifCond .ne 5, 3) := by decide +kernel
theorem dX7_placeRefusal_8 : decode cX7_placeRefusal 8 = .ok (.iconst (-1), 1) := by decide +kernel
theorem dX7_placeRefusal_9 : decode cX7_placeRefusal 9 = .ok (.ireturn, 1) := by decide +kernel
theorem dX7_placeRefusal_10 : decode cX7_placeRefusal 10 = .ok (.aload_n 0, 1) := by decide +kernel
theorem dX7_placeRefusal_11 : decode cX7_placeRefusal 11 = .ok (.getfield 11, 3) := by decide +kernel
theorem dX7_placeRefusal_14 : decode cX7_placeRefusal 14 = .ok (.iload_n 1, 1) := by decide +kernel
theorem dX7_placeRefusal_15 : decode cX7_placeRefusal 15 = .ok (.iaload, 1) := by decide +kernel
theorem dX7_placeRefusal_16 : decode cX7_placeRefusal 16 = .ok (.iconst (-1), 1) := by decide +kernel
theorem dX7_placeRefusal_17 : decode cX7_placeRefusal 17 = .ok (.if_icmp .ne 6, 3) := by decide +kernel
theorem dX7_placeRefusal_20 : decode cX7_placeRefusal 20 = .ok (.bipush (-11), 2) := by decide +kernel
theorem dX7_placeRefusal_22 : decode cX7_placeRefusal 22 = .ok (.ireturn, 1) := by decide +kernel
theorem dX7_placeRefusal_23 : decode cX7_placeRefusal 23 = .ok (.aload_n 0, 1) := by decide +kernel
theorem dX7_placeRefusal_24 : decode cX7_placeRefusal 24 = .ok (.getfield 11, 3) := by decide +kernel
theorem dX7_placeRefusal_27 : decode cX7_placeRefusal 27 = .ok (.iload_n 1, 1) := by decide +kernel
theorem dX7_placeRefusal_28 : decode cX7_placeRefusal 28 = .ok (.iaload, 1) := by decide +kernel
theorem dX7_placeRefusal_29 : decode cX7_placeRefusal 29 = .ok (.iconst 5, 1) := by decide +kernel
theorem dX7_placeRefusal_30 : decode cX7_placeRefusal 30 = .ok (.if_icmp .ne 6, 3) := by decide +kernel
theorem dX7_placeRefusal_33 : decode cX7_placeRefusal 33 = .ok (.bipush (-12), 2) := by decide +kernel
theorem dX7_placeRefusal_35 : decode cX7_placeRefusal 35 = .ok (.ireturn, 1) := by decide +kernel
theorem dX7_placeRefusal_36 : decode cX7_placeRefusal 36 = .ok (.iload_n 2, 1) := by decide +kernel
theorem dX7_placeRefusal_37 : decode cX7_placeRefusal 37 = .ok (.ifCond .lt 17, 3) := by decide +kernel
theorem dX7_placeRefusal_40 : decode cX7_placeRefusal 40 = .ok (.iload_n 2, 1) := by decide +kernel
theorem dX7_placeRefusal_41 : decode cX7_placeRefusal 41 = .ok (.aload_n 0, 1) := by decide +kernel
theorem dX7_placeRefusal_42 : decode cX7_placeRefusal 42 = .ok (.getfield 15, 3) := by decide +kernel
theorem dX7_placeRefusal_45 : decode cX7_placeRefusal 45 = .ok (.iload_n 1, 1) := by decide +kernel
theorem dX7_placeRefusal_46 : decode cX7_placeRefusal 46 = .ok (.iaload, 1) := by decide +kernel
theorem dX7_placeRefusal_47 : decode cX7_placeRefusal 47 = .ok (.if_icmp .ge 7, 3) := by decide +kernel
theorem dX7_placeRefusal_50 : decode cX7_placeRefusal 50 = .ok (.iconst 0, 1) := by decide +kernel
theorem dX7_placeRefusal_51 : decode cX7_placeRefusal 51 = .ok (.goto 5, 3) := by decide +kernel
theorem dX7_placeRefusal_54 : decode cX7_placeRefusal 54 = .ok (.bipush (-13), 2) := by decide +kernel
theorem dX7_placeRefusal_56 : decode cX7_placeRefusal 56 = .ok (.ireturn, 1) := by decide +kernel
theorem dX7_sizeOf_0 : decode cX7_sizeOf 0 = .ok (.aload_n 0, 1) := by decide +kernel
theorem dX7_sizeOf_1 : decode cX7_sizeOf 1 = .ok (.iload_n 1, 1) := by decide +kernel
theorem dX7_sizeOf_2 : decode cX7_sizeOf 2 = .ok (.invokevirtual 32, 3) := by decide +kernel
theorem dX7_sizeOf_5 : decode cX7_sizeOf 5 = .ok (.ifCond .eq 12, 3) := by decide +kernel
theorem dX7_sizeOf_8 : decode cX7_sizeOf 8 = .ok (.aload_n 0, 1) := by decide +kernel
theorem dX7_sizeOf_9 : decode cX7_sizeOf 9 = .ok (.getfield 15, 3) := by decide +kernel
theorem dX7_sizeOf_12 : decode cX7_sizeOf 12 = .ok (.iload_n 1, 1) := by decide +kernel
theorem dX7_sizeOf_13 : decode cX7_sizeOf 13 = .ok (.iaload, 1) := by decide +kernel
theorem dX7_sizeOf_14 : decode cX7_sizeOf 14 = .ok (.goto 4, 3) := by decide +kernel
theorem dX7_sizeOf_17 : decode cX7_sizeOf 17 = .ok (.iconst 0, 1) := by decide +kernel
theorem dX7_sizeOf_18 : decode cX7_sizeOf 18 = .ok (.ireturn, 1) := by decide +kernel
theorem dX7_bodyOn_0 : decode cX7_bodyOn 0 = .ok (.aload_n 0, 1) := by decide +kernel
theorem dX7_bodyOn_1 : decode cX7_bodyOn 1 = .ok (.iload_n 1, 1) := by decide +kernel
theorem dX7_bodyOn_2 : decode cX7_bodyOn 2 = .ok (.invokevirtual 32, 3) := by decide +kernel
theorem dX7_bodyOn_5 : decode cX7_bodyOn 5 = .ok (.ifCond .eq 12, 3) := by decide +kernel
theorem dX7_bodyOn_8 : decode cX7_bodyOn 8 = .ok (.aload_n 0, 1) := by decide +kernel
theorem dX7_bodyOn_9 : decode cX7_bodyOn 9 = .ok (.getfield 18, 3) := by decide +kernel
theorem dX7_bodyOn_12 : decode cX7_bodyOn 12 = .ok (.iload_n 1, 1) := by decide +kernel
theorem dX7_bodyOn_13 : decode cX7_bodyOn 13 = .ok (.iaload, 1) := by decide +kernel
theorem dX7_bodyOn_14 : decode cX7_bodyOn 14 = .ok (.goto 4, 3) := by decide +kernel
theorem dX7_bodyOn_17 : decode cX7_bodyOn 17 = .ok (.iconst (-1), 1) := by decide +kernel
theorem dX7_bodyOn_18 : decode cX7_bodyOn 18 = .ok (.ireturn, 1) := by decide +kernel
theorem dX7_hold_0 : decode cX7_hold 0 = .ok (.aload_n 0, 1) := by decide +kernel
theorem dX7_hold_1 : decode cX7_hold 1 = .ok (.iload_n 1, 1) := by decide +kernel
theorem dX7_hold_2 : decode cX7_hold 2 = .ok (.invokevirtual 32, 3) := by decide +kernel
theorem dX7_hold_5 : decode cX7_hold 5 = .ok (.ifCond .eq 32, 3) := by decide +kernel
theorem dX7_hold_8 : decode cX7_hold 8 = .ok (.aload_n 0, 1) := by decide +kernel
theorem dX7_hold_9 : decode cX7_hold 9 = .ok (.getfield 11, 3) := by decide +kernel
theorem dX7_hold_12 : decode cX7_hold 12 = .ok (.iload_n 1, 1) := by decide +kernel
theorem dX7_hold_13 : decode cX7_hold 13 = .ok (.iload_n 2, 1) := by decide +kernel
theorem dX7_hold_14 : decode cX7_hold 14 = .ok (.ifCond .ge 7, 3) := by decide +kernel
theorem dX7_hold_17 : decode cX7_hold 17 = .ok (.iconst (-1), 1) := by decide +kernel
theorem dX7_hold_18 : decode cX7_hold 18 = .ok (.goto 4, 3) := by decide +kernel
theorem dX7_hold_21 : decode cX7_hold 21 = .ok (.iconst 5, 1) := by decide +kernel
theorem dX7_hold_22 : decode cX7_hold 22 = .ok (.iastore, 1) := by decide +kernel
theorem dX7_hold_23 : decode cX7_hold 23 = .ok (.aload_n 0, 1) := by decide +kernel
theorem dX7_hold_24 : decode cX7_hold 24 = .ok (.getfield 15, 3) := by decide +kernel
theorem dX7_hold_27 : decode cX7_hold 27 = .ok (.iload_n 1, 1) := by decide +kernel
theorem dX7_hold_28 : decode cX7_hold 28 = .ok (.iconst 0, 1) := by decide +kernel
theorem dX7_hold_29 : decode cX7_hold 29 = .ok (.iastore, 1) := by decide +kernel
theorem dX7_hold_30 : decode cX7_hold 30 = .ok (.aload_n 0, 1) := by decide +kernel
theorem dX7_hold_31 : decode cX7_hold 31 = .ok (.getfield 18, 3) := by decide +kernel
theorem dX7_hold_34 : decode cX7_hold 34 = .ok (.iload_n 1, 1) := by decide +kernel
theorem dX7_hold_35 : decode cX7_hold 35 = .ok (.iload_n 2, 1) := by decide +kernel
theorem dX7_hold_36 : decode cX7_hold 36 = .ok (.iastore, 1) := by decide +kernel
theorem dX7_hold_37 : decode cX7_hold 37 = .ok (.return_, 1) := by decide +kernel
theorem dX7_lay_0 : decode cX7_lay 0 = .ok (.aload_n 0, 1) := by decide +kernel
theorem dX7_lay_1 : decode cX7_lay 1 = .ok (.iload_n 1, 1) := by decide +kernel
theorem dX7_lay_2 : decode cX7_lay 2 = .ok (.invokevirtual 32, 3) := by decide +kernel
theorem dX7_lay_5 : decode cX7_lay 5 = .ok (.ifCond .eq 37, 3) := by decide +kernel
theorem dX7_lay_8 : decode cX7_lay 8 = .ok (.iload_n 3, 1) := by decide +kernel
theorem dX7_lay_9 : decode cX7_lay 9 = .ok (.ifCond .lt 33, 3) := by decide +kernel
theorem dX7_lay_12 : decode cX7_lay 12 = .ok (.iload_n 3, 1) := by decide +kernel
theorem dX7_lay_13 : decode cX7_lay 13 = .ok (.bipush 60, 2) := by decide +kernel
theorem dX7_lay_15 : decode cX7_lay 15 = .ok (.if_icmp .gt 27, 3) := by decide +kernel
theorem dX7_lay_18 : decode cX7_lay 18 = .ok (.aload_n 0, 1) := by decide +kernel
theorem dX7_lay_19 : decode cX7_lay 19 = .ok (.getfield 11, 3) := by decide +kernel
theorem dX7_lay_22 : decode cX7_lay 22 = .ok (.iload_n 1, 1) := by decide +kernel
theorem dX7_lay_23 : decode cX7_lay 23 = .ok (.iload_n 2, 1) := by decide +kernel
theorem dX7_lay_24 : decode cX7_lay 24 = .ok (.iastore, 1) := by decide +kernel
theorem dX7_lay_25 : decode cX7_lay 25 = .ok (.aload_n 0, 1) := by decide +kernel
theorem dX7_lay_26 : decode cX7_lay 26 = .ok (.getfield 15, 3) := by decide +kernel
theorem dX7_lay_29 : decode cX7_lay 29 = .ok (.iload_n 1, 1) := by decide +kernel
theorem dX7_lay_30 : decode cX7_lay 30 = .ok (.iload_n 3, 1) := by decide +kernel
theorem dX7_lay_31 : decode cX7_lay 31 = .ok (.iastore, 1) := by decide +kernel
theorem dX7_lay_32 : decode cX7_lay 32 = .ok (.aload_n 0, 1) := by decide +kernel
theorem dX7_lay_33 : decode cX7_lay 33 = .ok (.getfield 23, 3) := by decide +kernel
theorem dX7_lay_36 : decode cX7_lay 36 = .ok (.iload_n 1, 1) := by decide +kernel
theorem dX7_lay_37 : decode cX7_lay 37 = .ok (.aaload, 1) := by decide +kernel
theorem dX7_lay_38 : decode cX7_lay 38 = .ok (.lconst 0, 1) := by decide +kernel
theorem dX7_lay_39 : decode cX7_lay 39 = .ok (.invokestatic 36, 3) := by decide +kernel
theorem dX7_lay_42 : decode cX7_lay 42 = .ok (.return_, 1) := by decide +kernel
theorem dX7_at_0 : decode cX7_at 0 = .ok (.aload_n 0, 1) := by decide +kernel
theorem dX7_at_1 : decode cX7_at 1 = .ok (.iload_n 1, 1) := by decide +kernel
theorem dX7_at_2 : decode cX7_at 2 = .ok (.invokevirtual 32, 3) := by decide +kernel
theorem dX7_at_5 : decode cX7_at 5 = .ok (.ifCond .eq 34, 3) := by decide +kernel
theorem dX7_at_8 : decode cX7_at 8 = .ok (.iload_n 2, 1) := by decide +kernel
theorem dX7_at_9 : decode cX7_at 9 = .ok (.ifCond .lt 30, 3) := by decide +kernel
theorem dX7_at_12 : decode cX7_at 12 = .ok (.iload_n 2, 1) := by decide +kernel
theorem dX7_at_13 : decode cX7_at 13 = .ok (.aload_n 0, 1) := by decide +kernel
theorem dX7_at_14 : decode cX7_at 14 = .ok (.getfield 15, 3) := by decide +kernel
theorem dX7_at_17 : decode cX7_at 17 = .ok (.iload_n 1, 1) := by decide +kernel
theorem dX7_at_18 : decode cX7_at 18 = .ok (.iaload, 1) := by decide +kernel
theorem dX7_at_19 : decode cX7_at 19 = .ok (.if_icmp .ge 20, 3) := by decide +kernel
theorem dX7_at_22 : decode cX7_at 22 = .ok (.iload_n 2, 1) := by decide +kernel
theorem dX7_at_23 : decode cX7_at 23 = .ok (.bipush 60, 2) := by decide +kernel
theorem dX7_at_25 : decode cX7_at 25 = .ok (.if_icmp .ge 14, 3) := by decide +kernel
theorem dX7_at_28 : decode cX7_at 28 = .ok (.aload_n 0, 1) := by decide +kernel
theorem dX7_at_29 : decode cX7_at 29 = .ok (.getfield 23, 3) := by decide +kernel
theorem dX7_at_32 : decode cX7_at 32 = .ok (.iload_n 1, 1) := by decide +kernel
theorem dX7_at_33 : decode cX7_at 33 = .ok (.aaload, 1) := by decide +kernel
theorem dX7_at_34 : decode cX7_at 34 = .ok (.iload_n 2, 1) := by decide +kernel
theorem dX7_at_35 : decode cX7_at 35 = .ok (.laload, 1) := by decide +kernel
theorem dX7_at_36 : decode cX7_at 36 = .ok (.goto 4, 3) := by decide +kernel
theorem dX7_at_39 : decode cX7_at 39 = .ok (.lconst 0, 1) := by decide +kernel
theorem dX7_at_40 : decode cX7_at 40 = .ok (.lreturn, 1) := by decide +kernel
theorem dX7_store_0 : decode cX7_store 0 = .ok (.aload_n 0, 1) := by decide +kernel
theorem dX7_store_1 : decode cX7_store 1 = .ok (.iload_n 1, 1) := by decide +kernel
theorem dX7_store_2 : decode cX7_store 2 = .ok (.invokevirtual 32, 3) := by decide +kernel
theorem dX7_store_5 : decode cX7_store 5 = .ok (.ifCond .eq 41, 3) := by decide +kernel
theorem dX7_store_8 : decode cX7_store 8 = .ok (.iload_n 2, 1) := by decide +kernel
theorem dX7_store_9 : decode cX7_store 9 = .ok (.ifCond .lt 37, 3) := by decide +kernel
theorem dX7_store_12 : decode cX7_store 12 = .ok (.iload_n 2, 1) := by decide +kernel
theorem dX7_store_13 : decode cX7_store 13 = .ok (.aload_n 0, 1) := by decide +kernel
theorem dX7_store_14 : decode cX7_store 14 = .ok (.getfield 15, 3) := by decide +kernel
theorem dX7_store_17 : decode cX7_store 17 = .ok (.iload_n 1, 1) := by decide +kernel
theorem dX7_store_18 : decode cX7_store 18 = .ok (.iaload, 1) := by decide +kernel
theorem dX7_store_19 : decode cX7_store 19 = .ok (.if_icmp .ge 27, 3) := by decide +kernel
theorem dX7_store_22 : decode cX7_store 22 = .ok (.iload_n 2, 1) := by decide +kernel
theorem dX7_store_23 : decode cX7_store 23 = .ok (.bipush 60, 2) := by decide +kernel
theorem dX7_store_25 : decode cX7_store 25 = .ok (.if_icmp .ge 21, 3) := by decide +kernel
theorem dX7_store_28 : decode cX7_store 28 = .ok (.aload_n 0, 1) := by decide +kernel
theorem dX7_store_29 : decode cX7_store 29 = .ok (.getfield 23, 3) := by decide +kernel
theorem dX7_store_32 : decode cX7_store 32 = .ok (.iload_n 1, 1) := by decide +kernel
theorem dX7_store_33 : decode cX7_store 33 = .ok (.aaload, 1) := by decide +kernel
theorem dX7_store_34 : decode cX7_store 34 = .ok (.iload_n 2, 1) := by decide +kernel
theorem dX7_store_35 : decode cX7_store 35 = .ok (.aload_n 0, 1) := by decide +kernel
theorem dX7_store_36 : decode cX7_store 36 = .ok (.getfield 11, 3) := by decide +kernel
theorem dX7_store_39 : decode cX7_store 39 = .ok (.iload_n 1, 1) := by decide +kernel
theorem dX7_store_40 : decode cX7_store 40 = .ok (.iaload, 1) := by decide +kernel
theorem dX7_store_41 : decode cX7_store 41 = .ok (.lload_n 3, 1) := by decide +kernel
theorem dX7_store_42 : decode cX7_store 42 = .ok (.invokestatic 39, 3) := by decide +kernel
theorem dX7_store_45 : decode cX7_store 45 = .ok (.lastore, 1) := by decide +kernel
theorem dX7_store_46 : decode cX7_store 46 = .ok (.return_, 1) := by decide +kernel
theorem dX7_cut_0 : decode cX7_cut 0 = .ok (.iload_n 0, 1) := by decide +kernel
theorem dX7_cut_1 : decode cX7_cut 1 = .ok (.tableswitch 59 0 4 #[35, 40, 59, 45, 47], 35) := by decide +kernel
theorem dX7_cut_36 : decode cX7_cut 36 = .ok (.lload_n 1, 1) := by decide +kernel
theorem dX7_cut_37 : decode cX7_cut 37 = .ok (.l2i, 1) := by decide +kernel
theorem dX7_cut_38 : decode cX7_cut 38 = .ok (.i2b, 1) := by decide +kernel
theorem dX7_cut_39 : decode cX7_cut 39 = .ok (.i2l, 1) := by decide +kernel
theorem dX7_cut_40 : decode cX7_cut 40 = .ok (.lreturn, 1) := by decide +kernel
theorem dX7_cut_41 : decode cX7_cut 41 = .ok (.lload_n 1, 1) := by decide +kernel
theorem dX7_cut_42 : decode cX7_cut 42 = .ok (.l2i, 1) := by decide +kernel
theorem dX7_cut_43 : decode cX7_cut 43 = .ok (.i2s, 1) := by decide +kernel
theorem dX7_cut_44 : decode cX7_cut 44 = .ok (.i2l, 1) := by decide +kernel
theorem dX7_cut_45 : decode cX7_cut 45 = .ok (.lreturn, 1) := by decide +kernel
theorem dX7_cut_46 : decode cX7_cut 46 = .ok (.lload_n 1, 1) := by decide +kernel
theorem dX7_cut_47 : decode cX7_cut 47 = .ok (.lreturn, 1) := by decide +kernel
theorem dX7_cut_48 : decode cX7_cut 48 = .ok (.lload_n 1, 1) := by decide +kernel
theorem dX7_cut_49 : decode cX7_cut 49 = .ok (.lconst 0, 1) := by decide +kernel
theorem dX7_cut_50 : decode cX7_cut 50 = .ok (.lcmp, 1) := by decide +kernel
theorem dX7_cut_51 : decode cX7_cut 51 = .ok (.ifCond .eq 7, 3) := by decide +kernel
theorem dX7_cut_54 : decode cX7_cut 54 = .ok (.lconst 1, 1) := by decide +kernel
theorem dX7_cut_55 : decode cX7_cut 55 = .ok (.goto 4, 3) := by decide +kernel
theorem dX7_cut_58 : decode cX7_cut 58 = .ok (.lconst 0, 1) := by decide +kernel
theorem dX7_cut_59 : decode cX7_cut 59 = .ok (.lreturn, 1) := by decide +kernel
theorem dX7_cut_60 : decode cX7_cut 60 = .ok (.lload_n 1, 1) := by decide +kernel
theorem dX7_cut_61 : decode cX7_cut 61 = .ok (.l2i, 1) := by decide +kernel
theorem dX7_cut_62 : decode cX7_cut 62 = .ok (.i2l, 1) := by decide +kernel
theorem dX7_cut_63 : decode cX7_cut 63 = .ok (.lreturn, 1) := by decide +kernel
theorem dX7_move_0 : decode cX7_move 0 = .ok (.aload_n 0, 1) := by decide +kernel
theorem dX7_move_1 : decode cX7_move 1 = .ok (.iload_n 1, 1) := by decide +kernel
theorem dX7_move_2 : decode cX7_move 2 = .ok (.invokevirtual 32, 3) := by decide +kernel
theorem dX7_move_5 : decode cX7_move 5 = .ok (.ifCond .eq 11, 3) := by decide +kernel
theorem dX7_move_8 : decode cX7_move 8 = .ok (.aload_n 0, 1) := by decide +kernel
theorem dX7_move_9 : decode cX7_move 9 = .ok (.iload_n 3, 1) := by decide +kernel
theorem dX7_move_10 : decode cX7_move 10 = .ok (.invokevirtual 32, 3) := by decide +kernel
theorem dX7_move_13 : decode cX7_move 13 = .ok (.ifCond .ne 5, 3) := by decide +kernel
theorem dX7_move_16 : decode cX7_move 16 = .ok (.iconst (-1), 1) := by decide +kernel
theorem dX7_move_17 : decode cX7_move 17 = .ok (.ireturn, 1) := by decide +kernel
theorem dX7_move_18 : decode cX7_move 18 = .ok (.aload_n 0, 1) := by decide +kernel
theorem dX7_move_19 : decode cX7_move 19 = .ok (.getfield 11, 3) := by decide +kernel
theorem dX7_move_22 : decode cX7_move 22 = .ok (.iload_n 1, 1) := by decide +kernel
theorem dX7_move_23 : decode cX7_move 23 = .ok (.iaload, 1) := by decide +kernel
theorem dX7_move_24 : decode cX7_move 24 = .ok (.iconst (-1), 1) := by decide +kernel
theorem dX7_move_25 : decode cX7_move 25 = .ok (.if_icmp .eq 13, 3) := by decide +kernel
theorem dX7_move_28 : decode cX7_move 28 = .ok (.aload_n 0, 1) := by decide +kernel
theorem dX7_move_29 : decode cX7_move 29 = .ok (.getfield 11, 3) := by decide +kernel
theorem dX7_move_32 : decode cX7_move 32 = .ok (.iload_n 3, 1) := by decide +kernel
theorem dX7_move_33 : decode cX7_move 33 = .ok (.iaload, 1) := by decide +kernel
theorem dX7_move_34 : decode cX7_move 34 = .ok (.iconst (-1), 1) := by decide +kernel
theorem dX7_move_35 : decode cX7_move 35 = .ok (.if_icmp .ne 6, 3) := by decide +kernel
theorem dX7_move_38 : decode cX7_move 38 = .ok (.bipush (-11), 2) := by decide +kernel
theorem dX7_move_40 : decode cX7_move 40 = .ok (.ireturn, 1) := by decide +kernel
theorem dX7_move_41 : decode cX7_move 41 = .ok (.aload_n 0, 1) := by decide +kernel
theorem dX7_move_42 : decode cX7_move 42 = .ok (.getfield 11, 3) := by decide +kernel
theorem dX7_move_45 : decode cX7_move 45 = .ok (.iload_n 1, 1) := by decide +kernel
theorem dX7_move_46 : decode cX7_move 46 = .ok (.iaload, 1) := by decide +kernel
theorem dX7_move_47 : decode cX7_move 47 = .ok (.iconst 5, 1) := by decide +kernel
theorem dX7_move_48 : decode cX7_move 48 = .ok (.if_icmp .eq 18, 3) := by decide +kernel
theorem dX7_move_51 : decode cX7_move 51 = .ok (.aload_n 0, 1) := by decide +kernel
theorem dX7_move_52 : decode cX7_move 52 = .ok (.getfield 11, 3) := by decide +kernel
theorem dX7_move_55 : decode cX7_move 55 = .ok (.iload_n 1, 1) := by decide +kernel
theorem dX7_move_56 : decode cX7_move 56 = .ok (.iaload, 1) := by decide +kernel
theorem dX7_move_57 : decode cX7_move 57 = .ok (.aload_n 0, 1) := by decide +kernel
theorem dX7_move_58 : decode cX7_move 58 = .ok (.getfield 11, 3) := by decide +kernel
theorem dX7_move_61 : decode cX7_move 61 = .ok (.iload_n 3, 1) := by decide +kernel
theorem dX7_move_62 : decode cX7_move 62 = .ok (.iaload, 1) := by decide +kernel
theorem dX7_move_63 : decode cX7_move 63 = .ok (.if_icmp .eq 6, 3) := by decide +kernel
theorem dX7_move_66 : decode cX7_move 66 = .ok (.bipush (-12), 2) := by decide +kernel
theorem dX7_move_68 : decode cX7_move 68 = .ok (.ireturn, 1) := by decide +kernel
theorem dX7_move_69 : decode cX7_move 69 = .ok (.iload 5, 2) := by decide +kernel
theorem dX7_move_71 : decode cX7_move 71 = .ok (.ifCond .lt 39, 3) := by decide +kernel
theorem dX7_move_74 : decode cX7_move 74 = .ok (.iload_n 2, 1) := by decide +kernel
theorem dX7_move_75 : decode cX7_move 75 = .ok (.ifCond .lt 35, 3) := by decide +kernel
theorem dX7_move_78 : decode cX7_move 78 = .ok (.iload 4, 2) := by decide +kernel
theorem dX7_move_80 : decode cX7_move 80 = .ok (.ifCond .lt 30, 3) := by decide +kernel
theorem dX7_move_83 : decode cX7_move 83 = .ok (.iload_n 2, 1) := by decide +kernel
theorem dX7_move_84 : decode cX7_move 84 = .ok (.aload_n 0, 1) := by decide +kernel
theorem dX7_move_85 : decode cX7_move 85 = .ok (.getfield 15, 3) := by decide +kernel
theorem dX7_move_88 : decode cX7_move 88 = .ok (.iload_n 1, 1) := by decide +kernel
theorem dX7_move_89 : decode cX7_move 89 = .ok (.iaload, 1) := by decide +kernel
theorem dX7_move_90 : decode cX7_move 90 = .ok (.iload 5, 2) := by decide +kernel
theorem dX7_move_92 : decode cX7_move 92 = .ok (.isub, 1) := by decide +kernel
theorem dX7_move_93 : decode cX7_move 93 = .ok (.if_icmp .gt 17, 3) := by decide +kernel
theorem dX7_move_96 : decode cX7_move 96 = .ok (.iload 4, 2) := by decide +kernel
theorem dX7_move_98 : decode cX7_move 98 = .ok (.aload_n 0, 1) := by decide +kernel
theorem dX7_move_99 : decode cX7_move 99 = .ok (.getfield 15, 3) := by decide +kernel
theorem dX7_move_102 : decode cX7_move 102 = .ok (.iload_n 3, 1) := by decide +kernel
theorem dX7_move_103 : decode cX7_move 103 = .ok (.iaload, 1) := by decide +kernel
theorem dX7_move_104 : decode cX7_move 104 = .ok (.iload 5, 2) := by decide +kernel
theorem dX7_move_106 : decode cX7_move 106 = .ok (.isub, 1) := by decide +kernel
theorem dX7_move_107 : decode cX7_move 107 = .ok (.if_icmp .le 6, 3) := by decide +kernel
theorem dX7_move_110 : decode cX7_move 110 = .ok (.bipush (-13), 2) := by decide +kernel
theorem dX7_move_112 : decode cX7_move 112 = .ok (.ireturn, 1) := by decide +kernel
theorem dX7_move_113 : decode cX7_move 113 = .ok (.aload_n 0, 1) := by decide +kernel
theorem dX7_move_114 : decode cX7_move 114 = .ok (.getfield 23, 3) := by decide +kernel
theorem dX7_move_117 : decode cX7_move 117 = .ok (.iload_n 1, 1) := by decide +kernel
theorem dX7_move_118 : decode cX7_move 118 = .ok (.aaload, 1) := by decide +kernel
theorem dX7_move_119 : decode cX7_move 119 = .ok (.iload_n 2, 1) := by decide +kernel
theorem dX7_move_120 : decode cX7_move 120 = .ok (.aload_n 0, 1) := by decide +kernel
theorem dX7_move_121 : decode cX7_move 121 = .ok (.getfield 23, 3) := by decide +kernel
theorem dX7_move_124 : decode cX7_move 124 = .ok (.iload_n 3, 1) := by decide +kernel
theorem dX7_move_125 : decode cX7_move 125 = .ok (.aaload, 1) := by decide +kernel
theorem dX7_move_126 : decode cX7_move 126 = .ok (.iload 4, 2) := by decide +kernel
theorem dX7_move_128 : decode cX7_move 128 = .ok (.iload 5, 2) := by decide +kernel
theorem dX7_move_130 : decode cX7_move 130 = .ok (.invokestatic 43, 3) := by decide +kernel
theorem dX7_move_133 : decode cX7_move 133 = .ok (.iload 5, 2) := by decide +kernel
theorem dX7_move_135 : decode cX7_move 135 = .ok (.ireturn, 1) := by decide +kernel
theorem dX8_init_0 : decode cX8_init 0 = .ok (.aload_n 0, 1) := by decide +kernel
theorem dX8_init_1 : decode cX8_init 1 = .ok (.invokespecial 3, 3) := by decide +kernel
theorem dX8_init_4 : decode cX8_init 4 = .ok (.aload_n 0, 1) := by decide +kernel
theorem dX8_init_5 : decode cX8_init 5 = .ok (.bipush 12, 2) := by decide +kernel
theorem dX8_init_7 : decode cX8_init 7 = .ok (.newarray .int, 2) := by decide +kernel
theorem dX8_init_9 : decode cX8_init 9 = .ok (.putfield 9, 3) := by decide +kernel
theorem dX8_init_12 : decode cX8_init 12 = .ok (.aload_n 0, 1) := by decide +kernel
theorem dX8_init_13 : decode cX8_init 13 = .ok (.bipush 12, 2) := by decide +kernel
theorem dX8_init_15 : decode cX8_init 15 = .ok (.newarray .int, 2) := by decide +kernel
theorem dX8_init_17 : decode cX8_init 17 = .ok (.putfield 15, 3) := by decide +kernel
theorem dX8_init_20 : decode cX8_init 20 = .ok (.aload_n 0, 1) := by decide +kernel
theorem dX8_init_21 : decode cX8_init 21 = .ok (.bipush 13, 2) := by decide +kernel
theorem dX8_init_23 : decode cX8_init 23 = .ok (.newarray .int, 2) := by decide +kernel
theorem dX8_init_25 : decode cX8_init 25 = .ok (.putfield 18, 3) := by decide +kernel
theorem dX8_init_28 : decode cX8_init 28 = .ok (.aload_n 0, 1) := by decide +kernel
theorem dX8_init_29 : decode cX8_init 29 = .ok (.aload_n 1, 1) := by decide +kernel
theorem dX8_init_30 : decode cX8_init 30 = .ok (.putfield 21, 3) := by decide +kernel
theorem dX8_init_33 : decode cX8_init 33 = .ok (.aload_n 0, 1) := by decide +kernel
theorem dX8_init_34 : decode cX8_init 34 = .ok (.aload_n 2, 1) := by decide +kernel
theorem dX8_init_35 : decode cX8_init 35 = .ok (.putfield 25, 3) := by decide +kernel
theorem dX8_init_38 : decode cX8_init 38 = .ok (.return_, 1) := by decide +kernel
theorem dX8_read_0 : decode cX8_read 0 = .ok (.aload_n 0, 1) := by decide +kernel
theorem dX8_read_1 : decode cX8_read 1 = .ok (.iconst 0, 1) := by decide +kernel
theorem dX8_read_2 : decode cX8_read 2 = .ok (.putfield 29, 3) := by decide +kernel
theorem dX8_read_5 : decode cX8_read 5 = .ok (.bipush 12, 2) := by decide +kernel
theorem dX8_read_7 : decode cX8_read 7 = .ok (.aload_n 1, 1) := by decide +kernel
theorem dX8_read_8 : decode cX8_read 8 = .ok (.iload_n 2, 1) := by decide +kernel
theorem dX8_read_9 : decode cX8_read 9 = .ok (.invokevirtual 33, 3) := by decide +kernel
theorem dX8_read_12 : decode cX8_read 12 = .ok (.invokestatic 39, 3) := by decide +kernel
theorem dX8_read_15 : decode cX8_read 15 = .ok (.istore_n 3, 1) := by decide +kernel
theorem dX8_read_16 : decode cX8_read 16 = .ok (.iconst 0, 1) := by decide +kernel
theorem dX8_read_17 : decode cX8_read 17 = .ok (.istore 4, 2) := by decide +kernel
theorem dX8_read_19 : decode cX8_read 19 = .ok (.iload 4, 2) := by decide +kernel
theorem dX8_read_21 : decode cX8_read 21 = .ok (.iload_n 3, 1) := by decide +kernel
theorem dX8_read_22 : decode cX8_read 22 = .ok (.if_icmp .ge 50, 3) := by decide +kernel
theorem dX8_read_25 : decode cX8_read 25 = .ok (.aload_n 1, 1) := by decide +kernel
theorem dX8_read_26 : decode cX8_read 26 = .ok (.iload_n 2, 1) := by decide +kernel
theorem dX8_read_27 : decode cX8_read 27 = .ok (.iload 4, 2) := by decide +kernel
theorem dX8_read_29 : decode cX8_read 29 = .ok (.invokevirtual 45, 3) := by decide +kernel
theorem dX8_read_32 : decode cX8_read 32 = .ok (.l2i, 1) := by decide +kernel
theorem dX8_read_33 : decode cX8_read 33 = .ok (.istore 5, 2) := by decide +kernel
theorem dX8_read_35 : decode cX8_read 35 = .ok (.aload_n 0, 1) := by decide +kernel
theorem dX8_read_36 : decode cX8_read 36 = .ok (.getfield 21, 3) := by decide +kernel
theorem dX8_read_39 : decode cX8_read 39 = .ok (.iload 5, 2) := by decide +kernel
theorem dX8_read_41 : decode cX8_read 41 = .ok (.iconst 0, 1) := by decide +kernel
theorem dX8_read_42 : decode cX8_read 42 = .ok (.invokevirtual 49, 3) := by decide +kernel
theorem dX8_read_45 : decode cX8_read 45 = .ok (.ifCond .ne 4, 3) := by decide +kernel
theorem dX8_read_48 : decode cX8_read 48 = .ok (.return_, 1) := by decide +kernel
theorem dX8_read_49 : decode cX8_read 49 = .ok (.aload_n 0, 1) := by decide +kernel
theorem dX8_read_50 : decode cX8_read 50 = .ok (.getfield 9, 3) := by decide +kernel
theorem dX8_read_53 : decode cX8_read 53 = .ok (.iload 4, 2) := by decide +kernel
theorem dX8_read_55 : decode cX8_read 55 = .ok (.iload 5, 2) := by decide +kernel
theorem dX8_read_57 : decode cX8_read 57 = .ok (.iastore, 1) := by decide +kernel
theorem dX8_read_58 : decode cX8_read 58 = .ok (.aload_n 0, 1) := by decide +kernel
theorem dX8_read_59 : decode cX8_read 59 = .ok (.iload 4, 2) := by decide +kernel
theorem dX8_read_61 : decode cX8_read 61 = .ok (.iconst 1, 1) := by decide +kernel
theorem dX8_read_62 : decode cX8_read 62 = .ok (.iadd, 1) := by decide +kernel
theorem dX8_read_63 : decode cX8_read 63 = .ok (.putfield 29, 3) := by decide +kernel
theorem dX8_read_66 : decode cX8_read 66 = .ok (.iinc 4 1, 3) := by decide +kernel
theorem dX8_read_69 : decode cX8_read 69 = .ok (.goto (-50), 3) := by decide +kernel
theorem dX8_read_72 : decode cX8_read 72 = .ok (.return_, 1) := by decide +kernel
theorem dX8_wordAt_0 : decode cX8_wordAt 0 = .ok (.iload_n 1, 1) := by decide +kernel
theorem dX8_wordAt_1 : decode cX8_wordAt 1 = .ok (.ifCond .lt 26, 3) := by decide +kernel
theorem dX8_wordAt_4 : decode cX8_wordAt 4 = .ok (.iload_n 1, 1) := by decide +kernel
theorem dX8_wordAt_5 : decode cX8_wordAt 5 = .ok (.aload_n 0, 1) := by decide +kernel
theorem dX8_wordAt_6 : decode cX8_wordAt 6 = .ok (.getfield 29, 3) := by decide +kernel
theorem dX8_wordAt_9 : decode cX8_wordAt 9 = .ok (.if_icmp .ge 18, 3) := by decide +kernel
theorem dX8_wordAt_12 : decode cX8_wordAt 12 = .ok (.iload_n 1, 1) := by decide +kernel
theorem dX8_wordAt_13 : decode cX8_wordAt 13 = .ok (.bipush 12, 2) := by decide +kernel
theorem dX8_wordAt_15 : decode cX8_wordAt 15 = .ok (.if_icmp .ge 12, 3) := by decide +kernel
theorem dX8_wordAt_18 : decode cX8_wordAt 18 = .ok (.aload_n 0, 1) := by decide +kernel
theorem dX8_wordAt_19 : decode cX8_wordAt 19 = .ok (.getfield 9, 3) := by decide +kernel
theorem dX8_wordAt_22 : decode cX8_wordAt 22 = .ok (.iload_n 1, 1) := by decide +kernel
theorem dX8_wordAt_23 : decode cX8_wordAt 23 = .ok (.iaload, 1) := by decide +kernel
theorem dX8_wordAt_24 : decode cX8_wordAt 24 = .ok (.goto 4, 3) := by decide +kernel
theorem dX8_wordAt_27 : decode cX8_wordAt 27 = .ok (.iconst (-1), 1) := by decide +kernel
theorem dX8_wordAt_28 : decode cX8_wordAt 28 = .ok (.ireturn, 1) := by decide +kernel
theorem dX8_costs_0 : decode cX8_costs 0 = .ok (.iconst 0, 1) := by decide +kernel
theorem dX8_costs_1 : decode cX8_costs 1 = .ok (.istore_n 1, 1) := by decide +kernel
theorem dX8_costs_2 : decode cX8_costs 2 = .ok (.iconst 3, 1) := by decide +kernel
theorem dX8_costs_3 : decode cX8_costs 3 = .ok (.istore_n 2, 1) := by decide +kernel
theorem dX8_costs_4 : decode cX8_costs 4 = .ok (.iconst 0, 1) := by decide +kernel
theorem dX8_costs_5 : decode cX8_costs 5 = .ok (.istore_n 3, 1) := by decide +kernel
theorem dX8_costs_6 : decode cX8_costs 6 = .ok (.iload_n 3, 1) := by decide +kernel
theorem dX8_costs_7 : decode cX8_costs 7 = .ok (.aload_n 0, 1) := by decide +kernel
theorem dX8_costs_8 : decode cX8_costs 8 = .ok (.getfield 29, 3) := by decide +kernel
theorem dX8_costs_11 : decode cX8_costs 11 = .ok (.if_icmp .ge 60, 3) := by decide +kernel
theorem dX8_costs_14 : decode cX8_costs 14 = .ok (.iload_n 3, 1) := by decide +kernel
theorem dX8_costs_15 : decode cX8_costs 15 = .ok (.bipush 12, 2) := by decide +kernel
theorem dX8_costs_17 : decode cX8_costs 17 = .ok (.if_icmp .ge 54, 3) := by decide +kernel
theorem dX8_costs_20 : decode cX8_costs 20 = .ok (.aload_n 0, 1) := by decide +kernel
theorem dX8_costs_21 : decode cX8_costs 21 = .ok (.getfield 15, 3) := by decide +kernel
theorem dX8_costs_24 : decode cX8_costs 24 = .ok (.iload_n 3, 1) := by decide +kernel
theorem dX8_costs_25 : decode cX8_costs 25 = .ok (.aload_n 0, 1) := by decide +kernel
theorem dX8_costs_26 : decode cX8_costs 26 = .ok (.getfield 25, 3) := by decide +kernel
theorem dX8_costs_29 : decode cX8_costs 29 = .ok (.aload_n 0, 1) := by decide +kernel
theorem dX8_costs_30 : decode cX8_costs 30 = .ok (.getfield 9, 3) := by decide +kernel
theorem dX8_costs_33 : decode cX8_costs 33 = .ok (.iload_n 3, 1) := by decide +kernel
theorem dX8_costs_34 : decode cX8_costs 34 = .ok (.iaload, 1) := by decide +kernel
theorem dX8_costs_35 : decode cX8_costs 35 = .ok (.iload_n 2, 1) := by decide +kernel
theorem dX8_costs_36 : decode cX8_costs 36 = .ok (.iload_n 3, 1) := by decide +kernel
theorem dX8_costs_37 : decode cX8_costs 37 = .ok (.invokevirtual 55, 3) := by decide +kernel
theorem dX8_costs_40 : decode cX8_costs 40 = .ok (.iastore, 1) := by decide +kernel
theorem dX8_costs_41 : decode cX8_costs 41 = .ok (.iload_n 1, 1) := by decide +kernel
theorem dX8_costs_42 : decode cX8_costs 42 = .ok (.aload_n 0, 1) := by decide +kernel
theorem dX8_costs_43 : decode cX8_costs 43 = .ok (.getfield 15, 3) := by decide +kernel
theorem dX8_costs_46 : decode cX8_costs 46 = .ok (.iload_n 3, 1) := by decide +kernel
theorem dX8_costs_47 : decode cX8_costs 47 = .ok (.iaload, 1) := by decide +kernel
theorem dX8_costs_48 : decode cX8_costs 48 = .ok (.iadd, 1) := by decide +kernel
theorem dX8_costs_49 : decode cX8_costs 49 = .ok (.istore_n 1, 1) := by decide +kernel
theorem dX8_costs_50 : decode cX8_costs 50 = .ok (.aload_n 0, 1) := by decide +kernel
theorem dX8_costs_51 : decode cX8_costs 51 = .ok (.getfield 21, 3) := by decide +kernel
theorem dX8_costs_54 : decode cX8_costs 54 = .ok (.aload_n 0, 1) := by decide +kernel
theorem dX8_costs_55 : decode cX8_costs 55 = .ok (.getfield 9, 3) := by decide +kernel
theorem dX8_costs_58 : decode cX8_costs 58 = .ok (.iload_n 3, 1) := by decide +kernel
theorem dX8_costs_59 : decode cX8_costs 59 = .ok (.iaload, 1) := by decide +kernel
theorem dX8_costs_60 : decode cX8_costs 60 = .ok (.iconst 2, 1) := by decide +kernel
theorem dX8_costs_61 : decode cX8_costs 61 = .ok (.invokevirtual 61, 3) := by decide +kernel
theorem dX8_costs_64 : decode cX8_costs 64 = .ok (.istore_n 2, 1) := by decide +kernel
theorem dX8_costs_65 : decode cX8_costs 65 = .ok (.iinc 3 1, 3) := by decide +kernel
theorem dX8_costs_68 : decode cX8_costs 68 = .ok (.goto (-62), 3) := by decide +kernel
theorem dX8_costs_71 : decode cX8_costs 71 = .ok (.iload_n 1, 1) := by decide +kernel
theorem dX8_costs_72 : decode cX8_costs 72 = .ok (.ireturn, 1) := by decide +kernel
theorem dX8_senseOf_0 : decode cX8_senseOf 0 = .ok (.aload_n 0, 1) := by decide +kernel
theorem dX8_senseOf_1 : decode cX8_senseOf 1 = .ok (.aload_n 0, 1) := by decide +kernel
theorem dX8_senseOf_2 : decode cX8_senseOf 2 = .ok (.getfield 29, 3) := by decide +kernel
theorem dX8_senseOf_5 : decode cX8_senseOf 5 = .ok (.invokevirtual 64, 3) := by decide +kernel
theorem dX8_senseOf_8 : decode cX8_senseOf 8 = .ok (.ireturn, 1) := by decide +kernel
theorem dX8_senseOfFirst_0 : decode cX8_senseOfFirst 0 = .ok (.iconst 0, 1) := by decide +kernel
theorem dX8_senseOfFirst_1 : decode cX8_senseOfFirst 1 = .ok (.istore_n 2, 1) := by decide +kernel
theorem dX8_senseOfFirst_2 : decode cX8_senseOfFirst 2 = .ok (.iconst 0, 1) := by decide +kernel
theorem dX8_senseOfFirst_3 : decode cX8_senseOfFirst 3 = .ok (.istore_n 3, 1) := by decide +kernel
theorem dX8_senseOfFirst_4 : decode cX8_senseOfFirst 4 = .ok (.iload_n 3, 1) := by decide +kernel
theorem dX8_senseOfFirst_5 : decode cX8_senseOfFirst 5 = .ok (.iload_n 1, 1) := by decide +kernel
theorem dX8_senseOfFirst_6 : decode cX8_senseOfFirst 6 = .ok (.if_icmp .ge 32, 3) := by decide +kernel
theorem dX8_senseOfFirst_9 : decode cX8_senseOfFirst 9 = .ok (.iload_n 3, 1) := by decide +kernel
theorem dX8_senseOfFirst_10 : decode cX8_senseOfFirst 10 = .ok (.bipush 12, 2) := by decide +kernel
theorem dX8_senseOfFirst_12 : decode cX8_senseOfFirst 12 = .ok (.if_icmp .ge 26, 3) := by decide +kernel
theorem dX8_senseOfFirst_15 : decode cX8_senseOfFirst 15 = .ok (.iload_n 2, 1) := by decide +kernel
theorem dX8_senseOfFirst_16 : decode cX8_senseOfFirst 16 = .ok (.aload_n 0, 1) := by decide +kernel
theorem dX8_senseOfFirst_17 : decode cX8_senseOfFirst 17 = .ok (.getfield 21, 3) := by decide +kernel
theorem dX8_senseOfFirst_20 : decode cX8_senseOfFirst 20 = .ok (.aload_n 0, 1) := by decide +kernel
theorem dX8_senseOfFirst_21 : decode cX8_senseOfFirst 21 = .ok (.getfield 9, 3) := by decide +kernel
theorem dX8_senseOfFirst_24 : decode cX8_senseOfFirst 24 = .ok (.iload_n 3, 1) := by decide +kernel
theorem dX8_senseOfFirst_25 : decode cX8_senseOfFirst 25 = .ok (.iaload, 1) := by decide +kernel
theorem dX8_senseOfFirst_26 : decode cX8_senseOfFirst 26 = .ok (.iconst 1, 1) := by decide +kernel
theorem dX8_senseOfFirst_27 : decode cX8_senseOfFirst 27 = .ok (.invokevirtual 61, 3) := by decide +kernel
theorem dX8_senseOfFirst_30 : decode cX8_senseOfFirst 30 = .ok (.ior, 1) := by decide +kernel
theorem dX8_senseOfFirst_31 : decode cX8_senseOfFirst 31 = .ok (.istore_n 2, 1) := by decide +kernel
theorem dX8_senseOfFirst_32 : decode cX8_senseOfFirst 32 = .ok (.iinc 3 1, 3) := by decide +kernel
theorem dX8_senseOfFirst_35 : decode cX8_senseOfFirst 35 = .ok (.goto (-31), 3) := by decide +kernel
theorem dX8_senseOfFirst_38 : decode cX8_senseOfFirst 38 = .ok (.iload_n 2, 1) := by decide +kernel
theorem dX8_senseOfFirst_39 : decode cX8_senseOfFirst 39 = .ok (.ireturn, 1) := by decide +kernel
theorem dX8_isRight_0 : decode cX8_isRight 0 = .ok (.iconst 3, 1) := by decide +kernel
theorem dX8_isRight_1 : decode cX8_isRight 1 = .ok (.istore_n 1, 1) := by decide +kernel
theorem dX8_isRight_2 : decode cX8_isRight 2 = .ok (.iconst 0, 1) := by decide +kernel
theorem dX8_isRight_3 : decode cX8_isRight 3 = .ok (.istore_n 2, 1) := by decide +kernel
theorem dX8_isRight_4 : decode cX8_isRight 4 = .ok (.iload_n 2, 1) := by decide +kernel
theorem dX8_isRight_5 : decode cX8_isRight 5 = .ok (.aload_n 0, 1) := by decide +kernel
theorem dX8_isRight_6 : decode cX8_isRight 6 = .ok (.getfield 29, 3) := by decide +kernel
theorem dX8_isRight_9 : decode cX8_isRight 9 = .ok (.if_icmp .ge 42, 3) := by decide +kernel
theorem dX8_isRight_12 : decode cX8_isRight 12 = .ok (.iload_n 2, 1) := by decide +kernel
theorem dX8_isRight_13 : decode cX8_isRight 13 = .ok (.bipush 12, 2) := by decide +kernel
theorem dX8_isRight_15 : decode cX8_isRight 15 = .ok (.if_icmp .ge 36, 3) := by decide +kernel
theorem dX8_isRight_18 : decode cX8_isRight 18 = .ok (.aload_n 0, 1) := by decide +kernel
theorem dX8_isRight_19 : decode cX8_isRight 19 = .ok (.getfield 21, 3) := by decide +kernel
theorem dX8_isRight_22 : decode cX8_isRight 22 = .ok (.aload_n 0, 1) := by decide +kernel
theorem dX8_isRight_23 : decode cX8_isRight 23 = .ok (.getfield 9, 3) := by decide +kernel
theorem dX8_isRight_26 : decode cX8_isRight 26 = .ok (.iload_n 2, 1) := by decide +kernel
theorem dX8_isRight_27 : decode cX8_isRight 27 = .ok (.iaload, 1) := by decide +kernel
theorem dX8_isRight_28 : decode cX8_isRight 28 = .ok (.iconst 2, 1) := by decide +kernel
theorem dX8_isRight_29 : decode cX8_isRight 29 = .ok (.invokevirtual 61, 3) := by decide +kernel
theorem dX8_isRight_32 : decode cX8_isRight 32 = .ok (.istore_n 3, 1) := by decide +kernel
theorem dX8_isRight_33 : decode cX8_isRight 33 = .ok (.iload_n 1, 1) := by decide +kernel
theorem dX8_isRight_34 : decode cX8_isRight 34 = .ok (.iload_n 3, 1) := by decide +kernel
theorem dX8_isRight_35 : decode cX8_isRight 35 = .ok (.invokestatic 67, 3) := by decide +kernel
theorem dX8_isRight_38 : decode cX8_isRight 38 = .ok (.ifCond .ne 5, 3) := by decide +kernel
theorem dX8_isRight_41 : decode cX8_isRight 41 = .ok (.iconst 0, 1) := by decide +kernel
theorem dX8_isRight_42 : decode cX8_isRight 42 = .ok (.ireturn, 1) := by decide +kernel
theorem dX8_isRight_43 : decode cX8_isRight 43 = .ok (.iload_n 3, 1) := by decide +kernel
theorem dX8_isRight_44 : decode cX8_isRight 44 = .ok (.istore_n 1, 1) := by decide +kernel
theorem dX8_isRight_45 : decode cX8_isRight 45 = .ok (.iinc 2 1, 3) := by decide +kernel
theorem dX8_isRight_48 : decode cX8_isRight 48 = .ok (.goto (-44), 3) := by decide +kernel
theorem dX8_isRight_51 : decode cX8_isRight 51 = .ok (.iload_n 1, 1) := by decide +kernel
theorem dX8_isRight_52 : decode cX8_isRight 52 = .ok (.invokestatic 70, 3) := by decide +kernel
theorem dX8_isRight_55 : decode cX8_isRight 55 = .ok (.ireturn, 1) := by decide +kernel
theorem dX8_follows_0 : decode cX8_follows 0 = .ok (.iload_n 0, 1) := by decide +kernel
theorem dX8_follows_1 : decode cX8_follows 1 = .ok (.iconst 3, 1) := by decide +kernel
theorem dX8_follows_2 : decode cX8_follows 2 = .ok (.if_icmp .ne 13, 3) := by decide +kernel
theorem dX8_follows_5 : decode cX8_follows 5 = .ok (.iload_n 1, 1) := by decide +kernel
theorem dX8_follows_6 : decode cX8_follows 6 = .ok (.ifCond .ne 7, 3) := by decide +kernel
theorem dX8_follows_9 : decode cX8_follows 9 = .ok (.iconst 1, 1) := by decide +kernel
theorem dX8_follows_10 : decode cX8_follows 10 = .ok (.goto 4, 3) := by decide +kernel
theorem dX8_follows_13 : decode cX8_follows 13 = .ok (.iconst 0, 1) := by decide +kernel
theorem dX8_follows_14 : decode cX8_follows 14 = .ok (.ireturn, 1) := by decide +kernel
theorem dX8_follows_15 : decode cX8_follows 15 = .ok (.iload_n 1, 1) := by decide +kernel
theorem dX8_follows_16 : decode cX8_follows 16 = .ok (.iconst 1, 1) := by decide +kernel
theorem dX8_follows_17 : decode cX8_follows 17 = .ok (.if_icmp .eq 12, 3) := by decide +kernel
theorem dX8_follows_20 : decode cX8_follows 20 = .ok (.iload_n 1, 1) := by decide +kernel
theorem dX8_follows_21 : decode cX8_follows 21 = .ok (.iconst 2, 1) := by decide +kernel
theorem dX8_follows_22 : decode cX8_follows 22 = .ok (.if_icmp .ne 11, 3) := by decide +kernel
theorem dX8_follows_25 : decode cX8_follows 25 = .ok (.iload_n 0, 1) := by decide +kernel
theorem dX8_follows_26 : decode cX8_follows 26 = .ok (.ifCond .eq 7, 3) := by decide +kernel
theorem dX8_follows_29 : decode cX8_follows 29 = .ok (.iconst 1, 1) := by decide +kernel
theorem dX8_follows_30 : decode cX8_follows 30 = .ok (.goto 4, 3) := by decide +kernel
theorem dX8_follows_33 : decode cX8_follows 33 = .ok (.iconst 0, 1) := by decide +kernel
theorem dX8_follows_34 : decode cX8_follows 34 = .ok (.ireturn, 1) := by decide +kernel
theorem dX8_mayEnd_0 : decode cX8_mayEnd 0 = .ok (.iload_n 0, 1) := by decide +kernel
theorem dX8_mayEnd_1 : decode cX8_mayEnd 1 = .ok (.iconst 1, 1) := by decide +kernel
theorem dX8_mayEnd_2 : decode cX8_mayEnd 2 = .ok (.if_icmp .eq 8, 3) := by decide +kernel
theorem dX8_mayEnd_5 : decode cX8_mayEnd 5 = .ok (.iload_n 0, 1) := by decide +kernel
theorem dX8_mayEnd_6 : decode cX8_mayEnd 6 = .ok (.iconst 2, 1) := by decide +kernel
theorem dX8_mayEnd_7 : decode cX8_mayEnd 7 = .ok (.if_icmp .ne 7, 3) := by decide +kernel
theorem dX8_mayEnd_10 : decode cX8_mayEnd 10 = .ok (.iconst 1, 1) := by decide +kernel
theorem dX8_mayEnd_11 : decode cX8_mayEnd 11 = .ok (.goto 4, 3) := by decide +kernel
theorem dX8_mayEnd_14 : decode cX8_mayEnd 14 = .ok (.iconst 0, 1) := by decide +kernel
theorem dX8_mayEnd_15 : decode cX8_mayEnd 15 = .ok (.ireturn, 1) := by decide +kernel
theorem dX8_joinedPrice_0 : decode cX8_joinedPrice 0 = .ok (.aload_n 0, 1) := by decide +kernel
theorem dX8_joinedPrice_1 : decode cX8_joinedPrice 1 = .ok (.invokevirtual 74, 3) := by decide +kernel
theorem dX8_joinedPrice_4 : decode cX8_joinedPrice 4 = .ok (.bipush 100, 2) := by decide +kernel
theorem dX8_joinedPrice_6 : decode cX8_joinedPrice 6 = .ok (.idiv, 1) := by decide +kernel
theorem dX8_joinedPrice_7 : decode cX8_joinedPrice 7 = .ok (.ireturn, 1) := by decide +kernel
theorem dX8_joinedRuns_0 : decode cX8_joinedRuns 0 = .ok (.aload_n 0, 1) := by decide +kernel
theorem dX8_joinedRuns_1 : decode cX8_joinedRuns 1 = .ok (.invokevirtual 74, 3) := by decide +kernel
theorem dX8_joinedRuns_4 : decode cX8_joinedRuns 4 = .ok (.bipush 100, 2) := by decide +kernel
theorem dX8_joinedRuns_6 : decode cX8_joinedRuns 6 = .ok (.irem, 1) := by decide +kernel
theorem dX8_joinedRuns_7 : decode cX8_joinedRuns 7 = .ok (.ireturn, 1) := by decide +kernel
theorem dX8_joined_0 : decode cX8_joined 0 = .ok (.aload_n 0, 1) := by decide +kernel
theorem dX8_joined_1 : decode cX8_joined 1 = .ok (.invokevirtual 78, 3) := by decide +kernel
theorem dX8_joined_4 : decode cX8_joined 4 = .ok (.pop, 1) := by decide +kernel
theorem dX8_joined_5 : decode cX8_joined 5 = .ok (.aload_n 0, 1) := by decide +kernel
theorem dX8_joined_6 : decode cX8_joined 6 = .ok (.getfield 21, 3) := by decide +kernel
theorem dX8_joined_9 : decode cX8_joined 9 = .ok (.iconst 0, 1) := by decide +kernel
theorem dX8_joined_10 : decode cX8_joined 10 = .ok (.bipush 9, 2) := by decide +kernel
theorem dX8_joined_12 : decode cX8_joined 12 = .ok (.invokevirtual 61, 3) := by decide +kernel
theorem dX8_joined_15 : decode cX8_joined 15 = .ok (.istore_n 1, 1) := by decide +kernel
theorem dX8_joined_16 : decode cX8_joined 16 = .ok (.iconst 1, 1) := by decide +kernel
theorem dX8_joined_17 : decode cX8_joined 17 = .ok (.istore_n 2, 1) := by decide +kernel
theorem dX8_joined_18 : decode cX8_joined 18 = .ok (.iload_n 2, 1) := by decide +kernel
theorem dX8_joined_19 : decode cX8_joined 19 = .ok (.aload_n 0, 1) := by decide +kernel
theorem dX8_joined_20 : decode cX8_joined 20 = .ok (.getfield 29, 3) := by decide +kernel
theorem dX8_joined_23 : decode cX8_joined 23 = .ok (.if_icmp .gt 115, 3) := by decide +kernel
theorem dX8_joined_26 : decode cX8_joined 26 = .ok (.iload_n 2, 1) := by decide +kernel
theorem dX8_joined_27 : decode cX8_joined 27 = .ok (.bipush 12, 2) := by decide +kernel
theorem dX8_joined_29 : decode cX8_joined 29 = .ok (.if_icmp .gt 109, 3) := by decide +kernel
theorem dX8_joined_32 : decode cX8_joined 32 = .ok (.iconst 0, 1) := by decide +kernel
theorem dX8_joined_33 : decode cX8_joined 33 = .ok (.istore_n 3, 1) := by decide +kernel
theorem dX8_joined_34 : decode cX8_joined 34 = .ok (.iconst 0, 1) := by decide +kernel
theorem dX8_joined_35 : decode cX8_joined 35 = .ok (.istore 4, 2) := by decide +kernel
theorem dX8_joined_37 : decode cX8_joined 37 = .ok (.ldc 83, 2) := by decide +kernel
theorem dX8_joined_39 : decode cX8_joined 39 = .ok (.istore 5, 2) := by decide +kernel
theorem dX8_joined_41 : decode cX8_joined 41 = .ok (.iload_n 2, 1) := by decide +kernel
theorem dX8_joined_42 : decode cX8_joined 42 = .ok (.iconst 1, 1) := by decide +kernel
theorem dX8_joined_43 : decode cX8_joined 43 = .ok (.isub, 1) := by decide +kernel
theorem dX8_joined_44 : decode cX8_joined 44 = .ok (.istore 6, 2) := by decide +kernel
theorem dX8_joined_46 : decode cX8_joined 46 = .ok (.iload 6, 2) := by decide +kernel
theorem dX8_joined_48 : decode cX8_joined 48 = .ok (.ifCond .lt 76, 3) := by decide +kernel
theorem dX8_joined_51 : decode cX8_joined 51 = .ok (.iload_n 3, 1) := by decide +kernel
theorem dX8_joined_52 : decode cX8_joined 52 = .ok (.aload_n 0, 1) := by decide +kernel
theorem dX8_joined_53 : decode cX8_joined 53 = .ok (.getfield 21, 3) := by decide +kernel
theorem dX8_joined_56 : decode cX8_joined 56 = .ok (.aload_n 0, 1) := by decide +kernel
theorem dX8_joined_57 : decode cX8_joined 57 = .ok (.getfield 9, 3) := by decide +kernel
theorem dX8_joined_60 : decode cX8_joined 60 = .ok (.iload 6, 2) := by decide +kernel
theorem dX8_joined_62 : decode cX8_joined 62 = .ok (.iaload, 1) := by decide +kernel
theorem dX8_joined_63 : decode cX8_joined 63 = .ok (.iconst 3, 1) := by decide +kernel
theorem dX8_joined_64 : decode cX8_joined 64 = .ok (.invokevirtual 61, 3) := by decide +kernel
theorem dX8_joined_67 : decode cX8_joined 67 = .ok (.iadd, 1) := by decide +kernel
theorem dX8_joined_68 : decode cX8_joined 68 = .ok (.istore_n 3, 1) := by decide +kernel
theorem dX8_joined_69 : decode cX8_joined 69 = .ok (.iload 4, 2) := by decide +kernel
theorem dX8_joined_71 : decode cX8_joined 71 = .ok (.aload_n 0, 1) := by decide +kernel
theorem dX8_joined_72 : decode cX8_joined 72 = .ok (.getfield 15, 3) := by decide +kernel
theorem dX8_joined_75 : decode cX8_joined 75 = .ok (.iload 6, 2) := by decide +kernel
theorem dX8_joined_77 : decode cX8_joined 77 = .ok (.iaload, 1) := by decide +kernel
theorem dX8_joined_78 : decode cX8_joined 78 = .ok (.invokestatic 84, 3) := by decide +kernel
theorem dX8_joined_81 : decode cX8_joined 81 = .ok (.istore 4, 2) := by decide +kernel
theorem dX8_joined_83 : decode cX8_joined 83 = .ok (.iload_n 3, 1) := by decide +kernel
theorem dX8_joined_84 : decode cX8_joined 84 = .ok (.iload_n 1, 1) := by decide +kernel
theorem dX8_joined_85 : decode cX8_joined 85 = .ok (.if_icmp .le 11, 3) := by decide +kernel
theorem dX8_joined_88 : decode cX8_joined 88 = .ok (.iload 6, 2) := by decide +kernel
theorem dX8_joined_90 : decode cX8_joined 90 = .ok (.iload_n 2, 1) := by decide +kernel
theorem dX8_joined_91 : decode cX8_joined 91 = .ok (.iconst 1, 1) := by decide +kernel
theorem dX8_joined_92 : decode cX8_joined 92 = .ok (.isub, 1) := by decide +kernel
theorem dX8_joined_93 : decode cX8_joined 93 = .ok (.if_icmp .ne 25, 3) := by decide +kernel
theorem dX8_joined_96 : decode cX8_joined 96 = .ok (.iload 5, 2) := by decide +kernel
theorem dX8_joined_98 : decode cX8_joined 98 = .ok (.aload_n 0, 1) := by decide +kernel
theorem dX8_joined_99 : decode cX8_joined 99 = .ok (.getfield 18, 3) := by decide +kernel
theorem dX8_joined_102 : decode cX8_joined 102 = .ok (.iload 6, 2) := by decide +kernel
theorem dX8_joined_104 : decode cX8_joined 104 = .ok (.iaload, 1) := by decide +kernel
theorem dX8_joined_105 : decode cX8_joined 105 = .ok (.iload 4, 2) := by decide +kernel
theorem dX8_joined_107 : decode cX8_joined 107 = .ok (.bipush 100, 2) := by decide +kernel
theorem dX8_joined_109 : decode cX8_joined 109 = .ok (.imul, 1) := by decide +kernel
theorem dX8_joined_110 : decode cX8_joined 110 = .ok (.iadd, 1) := by decide +kernel
theorem dX8_joined_111 : decode cX8_joined 111 = .ok (.iconst 1, 1) := by decide +kernel
theorem dX8_joined_112 : decode cX8_joined 112 = .ok (.iadd, 1) := by decide +kernel
theorem dX8_joined_113 : decode cX8_joined 113 = .ok (.invokestatic 39, 3) := by decide +kernel
theorem dX8_joined_116 : decode cX8_joined 116 = .ok (.istore 5, 2) := by decide +kernel
theorem dX8_joined_118 : decode cX8_joined 118 = .ok (.iinc 6 (-1), 3) := by decide +kernel
theorem dX8_joined_121 : decode cX8_joined 121 = .ok (.goto (-75), 3) := by decide +kernel
theorem dX8_joined_124 : decode cX8_joined 124 = .ok (.aload_n 0, 1) := by decide +kernel
theorem dX8_joined_125 : decode cX8_joined 125 = .ok (.getfield 18, 3) := by decide +kernel
theorem dX8_joined_128 : decode cX8_joined 128 = .ok (.iload_n 2, 1) := by decide +kernel
theorem dX8_joined_129 : decode cX8_joined 129 = .ok (.iload 5, 2) := by decide +kernel
theorem dX8_joined_131 : decode cX8_joined 131 = .ok (.iastore, 1) := by decide +kernel
theorem dX8_joined_132 : decode cX8_joined 132 = .ok (.iinc 2 1, 3) := by decide +kernel
theorem dX8_joined_135 : decode cX8_joined 135 = .ok (.goto (-117), 3) := by decide +kernel
theorem dX8_joined_138 : decode cX8_joined 138 = .ok (.aload_n 0, 1) := by decide +kernel
theorem dX8_joined_139 : decode cX8_joined 139 = .ok (.getfield 29, 3) := by decide +kernel
theorem dX8_joined_142 : decode cX8_joined 142 = .ok (.ifCond .lt 24, 3) := by decide +kernel
theorem dX8_joined_145 : decode cX8_joined 145 = .ok (.aload_n 0, 1) := by decide +kernel
theorem dX8_joined_146 : decode cX8_joined 146 = .ok (.getfield 29, 3) := by decide +kernel
theorem dX8_joined_149 : decode cX8_joined 149 = .ok (.bipush 12, 2) := by decide +kernel
theorem dX8_joined_151 : decode cX8_joined 151 = .ok (.if_icmp .gt 15, 3) := by decide +kernel
theorem dX8_joined_154 : decode cX8_joined 154 = .ok (.aload_n 0, 1) := by decide +kernel
theorem dX8_joined_155 : decode cX8_joined 155 = .ok (.getfield 18, 3) := by decide +kernel
theorem dX8_joined_158 : decode cX8_joined 158 = .ok (.aload_n 0, 1) := by decide +kernel
theorem dX8_joined_159 : decode cX8_joined 159 = .ok (.getfield 29, 3) := by decide +kernel
theorem dX8_joined_162 : decode cX8_joined 162 = .ok (.iaload, 1) := by decide +kernel
theorem dX8_joined_163 : decode cX8_joined 163 = .ok (.goto 4, 3) := by decide +kernel
theorem dX8_joined_166 : decode cX8_joined 166 = .ok (.iconst 0, 1) := by decide +kernel
theorem dX8_joined_167 : decode cX8_joined 167 = .ok (.ireturn, 1) := by decide +kernel
theorem dX9_init_0 : decode cX9_init 0 = .ok (.aload_n 0, 1) := by decide +kernel
theorem dX9_init_1 : decode cX9_init 1 = .ok (.invokespecial 1, 3) := by decide +kernel
theorem dX9_init_4 : decode cX9_init 4 = .ok (.aload_n 0, 1) := by decide +kernel
theorem dX9_init_5 : decode cX9_init 5 = .ok (.new 7, 3) := by decide +kernel
theorem dX9_init_8 : decode cX9_init 8 = .ok (.dup, 1) := by decide +kernel
theorem dX9_init_9 : decode cX9_init 9 = .ok (.invokespecial 9, 3) := by decide +kernel
theorem dX9_init_12 : decode cX9_init 12 = .ok (.putfield 10, 3) := by decide +kernel
theorem dX9_init_15 : decode cX9_init 15 = .ok (.aload_n 0, 1) := by decide +kernel
theorem dX9_init_16 : decode cX9_init 16 = .ok (.new 16, 3) := by decide +kernel
theorem dX9_init_19 : decode cX9_init 19 = .ok (.dup, 1) := by decide +kernel
theorem dX9_init_20 : decode cX9_init 20 = .ok (.aload_n 0, 1) := by decide +kernel
theorem dX9_init_21 : decode cX9_init 21 = .ok (.getfield 10, 3) := by decide +kernel
theorem dX9_init_24 : decode cX9_init 24 = .ok (.invokespecial 18, 3) := by decide +kernel
theorem dX9_init_27 : decode cX9_init 27 = .ok (.putfield 21, 3) := by decide +kernel
theorem dX9_init_30 : decode cX9_init 30 = .ok (.aload_n 0, 1) := by decide +kernel
theorem dX9_init_31 : decode cX9_init 31 = .ok (.new 25, 3) := by decide +kernel
theorem dX9_init_34 : decode cX9_init 34 = .ok (.dup, 1) := by decide +kernel
theorem dX9_init_35 : decode cX9_init 35 = .ok (.invokespecial 27, 3) := by decide +kernel
theorem dX9_init_38 : decode cX9_init 38 = .ok (.putfield 28, 3) := by decide +kernel
theorem dX9_init_41 : decode cX9_init 41 = .ok (.aload_n 0, 1) := by decide +kernel
theorem dX9_init_42 : decode cX9_init 42 = .ok (.new 32, 3) := by decide +kernel
theorem dX9_init_45 : decode cX9_init 45 = .ok (.dup, 1) := by decide +kernel
theorem dX9_init_46 : decode cX9_init 46 = .ok (.aload_n 0, 1) := by decide +kernel
theorem dX9_init_47 : decode cX9_init 47 = .ok (.getfield 10, 3) := by decide +kernel
theorem dX9_init_50 : decode cX9_init 50 = .ok (.aload_n 0, 1) := by decide +kernel
theorem dX9_init_51 : decode cX9_init 51 = .ok (.getfield 21, 3) := by decide +kernel
theorem dX9_init_54 : decode cX9_init 54 = .ok (.invokespecial 34, 3) := by decide +kernel
theorem dX9_init_57 : decode cX9_init 57 = .ok (.putfield 37, 3) := by decide +kernel
theorem dX9_init_60 : decode cX9_init 60 = .ok (.aload_n 0, 1) := by decide +kernel
theorem dX9_init_61 : decode cX9_init 61 = .ok (.new 41, 3) := by decide +kernel
theorem dX9_init_64 : decode cX9_init 64 = .ok (.dup, 1) := by decide +kernel
theorem dX9_init_65 : decode cX9_init 65 = .ok (.aload_n 0, 1) := by decide +kernel
theorem dX9_init_66 : decode cX9_init 66 = .ok (.getfield 10, 3) := by decide +kernel
theorem dX9_init_69 : decode cX9_init 69 = .ok (.aload_n 0, 1) := by decide +kernel
theorem dX9_init_70 : decode cX9_init 70 = .ok (.getfield 21, 3) := by decide +kernel
theorem dX9_init_73 : decode cX9_init 73 = .ok (.invokespecial 43, 3) := by decide +kernel
theorem dX9_init_76 : decode cX9_init 76 = .ok (.putfield 44, 3) := by decide +kernel
theorem dX9_init_79 : decode cX9_init 79 = .ok (.aload_n 0, 1) := by decide +kernel
theorem dX9_init_80 : decode cX9_init 80 = .ok (.new 48, 3) := by decide +kernel
theorem dX9_init_83 : decode cX9_init 83 = .ok (.dup, 1) := by decide +kernel
theorem dX9_init_84 : decode cX9_init 84 = .ok (.aload_n 0, 1) := by decide +kernel
theorem dX9_init_85 : decode cX9_init 85 = .ok (.getfield 10, 3) := by decide +kernel
theorem dX9_init_88 : decode cX9_init 88 = .ok (.aload_n 0, 1) := by decide +kernel
theorem dX9_init_89 : decode cX9_init 89 = .ok (.getfield 37, 3) := by decide +kernel
theorem dX9_init_92 : decode cX9_init 92 = .ok (.invokespecial 50, 3) := by decide +kernel
theorem dX9_init_95 : decode cX9_init 95 = .ok (.putfield 53, 3) := by decide +kernel
theorem dX9_init_98 : decode cX9_init 98 = .ok (.aload_n 0, 1) := by decide +kernel
theorem dX9_init_99 : decode cX9_init 99 = .ok (.new 57, 3) := by decide +kernel
theorem dX9_init_102 : decode cX9_init 102 = .ok (.dup, 1) := by decide +kernel
theorem dX9_init_103 : decode cX9_init 103 = .ok (.aload_n 0, 1) := by decide +kernel
theorem dX9_init_104 : decode cX9_init 104 = .ok (.getfield 10, 3) := by decide +kernel
theorem dX9_init_107 : decode cX9_init 107 = .ok (.invokespecial 59, 3) := by decide +kernel
theorem dX9_init_110 : decode cX9_init 110 = .ok (.putfield 60, 3) := by decide +kernel
theorem dX9_init_113 : decode cX9_init 113 = .ok (.aload_n 0, 1) := by decide +kernel
theorem dX9_init_114 : decode cX9_init 114 = .ok (.new 64, 3) := by decide +kernel
theorem dX9_init_117 : decode cX9_init 117 = .ok (.dup, 1) := by decide +kernel
theorem dX9_init_118 : decode cX9_init 118 = .ok (.aload_n 0, 1) := by decide +kernel
theorem dX9_init_119 : decode cX9_init 119 = .ok (.getfield 10, 3) := by decide +kernel
theorem dX9_init_122 : decode cX9_init 122 = .ok (.invokespecial 66, 3) := by decide +kernel
theorem dX9_init_125 : decode cX9_init 125 = .ok (.putfield 67, 3) := by decide +kernel
theorem dX9_init_128 : decode cX9_init 128 = .ok (.aload_n 0, 1) := by decide +kernel
theorem dX9_init_129 : decode cX9_init 129 = .ok (.new 71, 3) := by decide +kernel
theorem dX9_init_132 : decode cX9_init 132 = .ok (.dup, 1) := by decide +kernel
theorem dX9_init_133 : decode cX9_init 133 = .ok (.invokespecial 73, 3) := by decide +kernel
theorem dX9_init_136 : decode cX9_init 136 = .ok (.putfield 74, 3) := by decide +kernel
theorem dX9_init_139 : decode cX9_init 139 = .ok (.return_, 1) := by decide +kernel
theorem dX9_word_0 : decode cX9_word 0 = .ok (.aload_n 0, 1) := by decide +kernel
theorem dX9_word_1 : decode cX9_word 1 = .ok (.getfield 10, 3) := by decide +kernel
theorem dX9_word_4 : decode cX9_word 4 = .ok (.iconst 0, 1) := by decide +kernel
theorem dX9_word_5 : decode cX9_word 5 = .ok (.iload_n 1, 1) := by decide +kernel
theorem dX9_word_6 : decode cX9_word 6 = .ok (.invokevirtual 78, 3) := by decide +kernel
theorem dX9_word_9 : decode cX9_word 9 = .ok (.ifCond .eq 15, 3) := by decide +kernel
theorem dX9_word_12 : decode cX9_word 12 = .ok (.aload_n 0, 1) := by decide +kernel
theorem dX9_word_13 : decode cX9_word 13 = .ok (.getfield 10, 3) := by decide +kernel
theorem dX9_word_16 : decode cX9_word 16 = .ok (.iconst 1, 1) := by decide +kernel
theorem dX9_word_17 : decode cX9_word 17 = .ok (.iload_n 2, 1) := by decide +kernel
theorem dX9_word_18 : decode cX9_word 18 = .ok (.invokevirtual 78, 3) := by decide +kernel
theorem dX9_word_21 : decode cX9_word 21 = .ok (.ifCond .ne 5, 3) := by decide +kernel
theorem dX9_word_24 : decode cX9_word 24 = .ok (.iconst (-1), 1) := by decide +kernel
theorem dX9_word_25 : decode cX9_word 25 = .ok (.ireturn, 1) := by decide +kernel
theorem dX9_word_26 : decode cX9_word 26 = .ok (.aload_n 0, 1) := by decide +kernel
theorem dX9_word_27 : decode cX9_word 27 = .ok (.getfield 10, 3) := by decide +kernel
theorem dX9_word_30 : decode cX9_word 30 = .ok (.iload_n 1, 1) := by decide +kernel
theorem dX9_word_31 : decode cX9_word 31 = .ok (.iload_n 2, 1) := by decide +kernel
theorem dX9_word_32 : decode cX9_word 32 = .ok (.iconst 1, 1) := by decide +kernel
theorem dX9_word_33 : decode cX9_word 33 = .ok (.invokevirtual 82, 3) := by decide +kernel
theorem dX9_word_36 : decode cX9_word 36 = .ok (.ireturn, 1) := by decide +kernel
theorem dX9_words_0 : decode cX9_words 0 = .ok (.iload_n 3, 1) := by decide +kernel
theorem dX9_words_1 : decode cX9_words 1 = .ok (.iconst 1, 1) := by decide +kernel
theorem dX9_words_2 : decode cX9_words 2 = .ok (.bipush 12, 2) := by decide +kernel
theorem dX9_words_4 : decode cX9_words 4 = .ok (.invokestatic 86, 3) := by decide +kernel
theorem dX9_words_7 : decode cX9_words 7 = .ok (.ifCond .ne 5, 3) := by decide +kernel
theorem dX9_words_10 : decode cX9_words 10 = .ok (.iconst (-1), 1) := by decide +kernel
theorem dX9_words_11 : decode cX9_words 11 = .ok (.ireturn, 1) := by decide +kernel
theorem dX9_words_12 : decode cX9_words 12 = .ok (.aload_n 0, 1) := by decide +kernel
theorem dX9_words_13 : decode cX9_words 13 = .ok (.getfield 28, 3) := by decide +kernel
theorem dX9_words_16 : decode cX9_words 16 = .ok (.iload_n 1, 1) := by decide +kernel
theorem dX9_words_17 : decode cX9_words 17 = .ok (.iconst 0, 1) := by decide +kernel
theorem dX9_words_18 : decode cX9_words 18 = .ok (.invokevirtual 90, 3) := by decide +kernel
theorem dX9_words_21 : decode cX9_words 21 = .ok (.istore 4, 2) := by decide +kernel
theorem dX9_words_23 : decode cX9_words 23 = .ok (.iload 4, 2) := by decide +kernel
theorem dX9_words_25 : decode cX9_words 25 = .ok (.iconst (-1), 1) := by decide +kernel
theorem dX9_words_26 : decode cX9_words 26 = .ok (.if_icmp .eq 10, 3) := by decide +kernel
theorem dX9_words_29 : decode cX9_words 29 = .ok (.iload 4, 2) := by decide +kernel
theorem dX9_words_31 : decode cX9_words 31 = .ok (.bipush (-12), 2) := by decide +kernel
theorem dX9_words_33 : decode cX9_words 33 = .ok (.if_icmp .ne 6, 3) := by decide +kernel
theorem dX9_words_36 : decode cX9_words 36 = .ok (.iload 4, 2) := by decide +kernel
theorem dX9_words_38 : decode cX9_words 38 = .ok (.ireturn, 1) := by decide +kernel
theorem dX9_words_39 : decode cX9_words 39 = .ok (.iload 4, 2) := by decide +kernel
theorem dX9_words_41 : decode cX9_words 41 = .ok (.bipush (-11), 2) := by decide +kernel
theorem dX9_words_43 : decode cX9_words 43 = .ok (.if_icmp .eq 7, 3) := by decide +kernel
theorem dX9_words_46 : decode cX9_words 46 = .ok (.iload_n 2, 1) := by decide +kernel
theorem dX9_words_47 : decode cX9_words 47 = .ok (.ifCond .ge 5, 3) := by decide +kernel
theorem dX9_words_50 : decode cX9_words 50 = .ok (.iconst 0, 1) := by decide +kernel
theorem dX9_words_51 : decode cX9_words 51 = .ok (.ireturn, 1) := by decide +kernel
theorem dX9_words_52 : decode cX9_words 52 = .ok (.iconst 0, 1) := by decide +kernel
theorem dX9_words_53 : decode cX9_words 53 = .ok (.istore 5, 2) := by decide +kernel
theorem dX9_words_55 : decode cX9_words 55 = .ok (.iload 5, 2) := by decide +kernel
theorem dX9_words_57 : decode cX9_words 57 = .ok (.iload_n 3, 1) := by decide +kernel
theorem dX9_words_58 : decode cX9_words 58 = .ok (.if_icmp .ge 45, 3) := by decide +kernel
theorem dX9_words_61 : decode cX9_words 61 = .ok (.iload_n 2, 1) := by decide +kernel
theorem dX9_words_62 : decode cX9_words 62 = .ok (.aload_n 0, 1) := by decide +kernel
theorem dX9_words_63 : decode cX9_words 63 = .ok (.getfield 28, 3) := by decide +kernel
theorem dX9_words_66 : decode cX9_words 66 = .ok (.iload_n 1, 1) := by decide +kernel
theorem dX9_words_67 : decode cX9_words 67 = .ok (.invokevirtual 94, 3) := by decide +kernel
theorem dX9_words_70 : decode cX9_words 70 = .ok (.iconst 3, 1) := by decide +kernel
theorem dX9_words_71 : decode cX9_words 71 = .ok (.iload 5, 2) := by decide +kernel
theorem dX9_words_73 : decode cX9_words 73 = .ok (.iconst 1, 1) := by decide +kernel
theorem dX9_words_74 : decode cX9_words 74 = .ok (.iadd, 1) := by decide +kernel
theorem dX9_words_75 : decode cX9_words 75 = .ok (.imul, 1) := by decide +kernel
theorem dX9_words_76 : decode cX9_words 76 = .ok (.isub, 1) := by decide +kernel
theorem dX9_words_77 : decode cX9_words 77 = .ok (.if_icmp .gt 17, 3) := by decide +kernel
theorem dX9_words_80 : decode cX9_words 80 = .ok (.aload_n 0, 1) := by decide +kernel
theorem dX9_words_81 : decode cX9_words 81 = .ok (.iload_n 1, 1) := by decide +kernel
theorem dX9_words_82 : decode cX9_words 82 = .ok (.iload_n 2, 1) := by decide +kernel
theorem dX9_words_83 : decode cX9_words 83 = .ok (.iconst 3, 1) := by decide +kernel
theorem dX9_words_84 : decode cX9_words 84 = .ok (.iload 5, 2) := by decide +kernel
theorem dX9_words_86 : decode cX9_words 86 = .ok (.imul, 1) := by decide +kernel
theorem dX9_words_87 : decode cX9_words 87 = .ok (.iadd, 1) := by decide +kernel
theorem dX9_words_88 : decode cX9_words 88 = .ok (.invokevirtual 98, 3) := by decide +kernel
theorem dX9_words_91 : decode cX9_words 91 = .ok (.ifCond .ne 6, 3) := by decide +kernel
theorem dX9_words_94 : decode cX9_words 94 = .ok (.iload 5, 2) := by decide +kernel
theorem dX9_words_96 : decode cX9_words 96 = .ok (.ireturn, 1) := by decide +kernel
theorem dX9_words_97 : decode cX9_words 97 = .ok (.iinc 5 1, 3) := by decide +kernel
theorem dX9_words_100 : decode cX9_words 100 = .ok (.goto (-45), 3) := by decide +kernel
theorem dX9_words_103 : decode cX9_words 103 = .ok (.iload_n 3, 1) := by decide +kernel
theorem dX9_words_104 : decode cX9_words 104 = .ok (.ireturn, 1) := by decide +kernel
theorem dX9_wordFrom_0 : decode cX9_wordFrom 0 = .ok (.aload_n 0, 1) := by decide +kernel
theorem dX9_wordFrom_1 : decode cX9_wordFrom 1 = .ok (.getfield 28, 3) := by decide +kernel
theorem dX9_wordFrom_4 : decode cX9_wordFrom 4 = .ok (.iload_n 1, 1) := by decide +kernel
theorem dX9_wordFrom_5 : decode cX9_wordFrom 5 = .ok (.iload_n 2, 1) := by decide +kernel
theorem dX9_wordFrom_6 : decode cX9_wordFrom 6 = .ok (.invokevirtual 101, 3) := by decide +kernel
theorem dX9_wordFrom_9 : decode cX9_wordFrom 9 = .ok (.l2i, 1) := by decide +kernel
theorem dX9_wordFrom_10 : decode cX9_wordFrom 10 = .ok (.istore_n 3, 1) := by decide +kernel
theorem dX9_wordFrom_11 : decode cX9_wordFrom 11 = .ok (.aload_n 0, 1) := by decide +kernel
theorem dX9_wordFrom_12 : decode cX9_wordFrom 12 = .ok (.getfield 28, 3) := by decide +kernel
theorem dX9_wordFrom_15 : decode cX9_wordFrom 15 = .ok (.iload_n 1, 1) := by decide +kernel
theorem dX9_wordFrom_16 : decode cX9_wordFrom 16 = .ok (.iload_n 2, 1) := by decide +kernel
theorem dX9_wordFrom_17 : decode cX9_wordFrom 17 = .ok (.iconst 1, 1) := by decide +kernel
theorem dX9_wordFrom_18 : decode cX9_wordFrom 18 = .ok (.iadd, 1) := by decide +kernel
theorem dX9_wordFrom_19 : decode cX9_wordFrom 19 = .ok (.invokevirtual 101, 3) := by decide +kernel
theorem dX9_wordFrom_22 : decode cX9_wordFrom 22 = .ok (.l2i, 1) := by decide +kernel
theorem dX9_wordFrom_23 : decode cX9_wordFrom 23 = .ok (.istore 4, 2) := by decide +kernel
theorem dX9_wordFrom_25 : decode cX9_wordFrom 25 = .ok (.aload_n 0, 1) := by decide +kernel
theorem dX9_wordFrom_26 : decode cX9_wordFrom 26 = .ok (.getfield 28, 3) := by decide +kernel
theorem dX9_wordFrom_29 : decode cX9_wordFrom 29 = .ok (.iload_n 1, 1) := by decide +kernel
theorem dX9_wordFrom_30 : decode cX9_wordFrom 30 = .ok (.iload_n 2, 1) := by decide +kernel
theorem dX9_wordFrom_31 : decode cX9_wordFrom 31 = .ok (.iconst 2, 1) := by decide +kernel
theorem dX9_wordFrom_32 : decode cX9_wordFrom 32 = .ok (.iadd, 1) := by decide +kernel
theorem dX9_wordFrom_33 : decode cX9_wordFrom 33 = .ok (.invokevirtual 101, 3) := by decide +kernel
theorem dX9_wordFrom_36 : decode cX9_wordFrom 36 = .ok (.l2i, 1) := by decide +kernel
theorem dX9_wordFrom_37 : decode cX9_wordFrom 37 = .ok (.istore 5, 2) := by decide +kernel
theorem dX9_wordFrom_39 : decode cX9_wordFrom 39 = .ok (.aload_n 0, 1) := by decide +kernel
theorem dX9_wordFrom_40 : decode cX9_wordFrom 40 = .ok (.getfield 10, 3) := by decide +kernel
theorem dX9_wordFrom_43 : decode cX9_wordFrom 43 = .ok (.iconst 0, 1) := by decide +kernel
theorem dX9_wordFrom_44 : decode cX9_wordFrom 44 = .ok (.iload_n 3, 1) := by decide +kernel
theorem dX9_wordFrom_45 : decode cX9_wordFrom 45 = .ok (.invokevirtual 78, 3) := by decide +kernel
theorem dX9_wordFrom_48 : decode cX9_wordFrom 48 = .ok (.ifCond .eq 29, 3) := by decide +kernel
theorem dX9_wordFrom_51 : decode cX9_wordFrom 51 = .ok (.aload_n 0, 1) := by decide +kernel
theorem dX9_wordFrom_52 : decode cX9_wordFrom 52 = .ok (.getfield 10, 3) := by decide +kernel
theorem dX9_wordFrom_55 : decode cX9_wordFrom 55 = .ok (.iconst 1, 1) := by decide +kernel
theorem dX9_wordFrom_56 : decode cX9_wordFrom 56 = .ok (.iload 4, 2) := by decide +kernel
theorem dX9_wordFrom_58 : decode cX9_wordFrom 58 = .ok (.invokevirtual 78, 3) := by decide +kernel
theorem dX9_wordFrom_61 : decode cX9_wordFrom 61 = .ok (.ifCond .eq 16, 3) := by decide +kernel
theorem dX9_wordFrom_64 : decode cX9_wordFrom 64 = .ok (.aload_n 0, 1) := by decide +kernel
theorem dX9_wordFrom_65 : decode cX9_wordFrom 65 = .ok (.getfield 10, 3) := by decide +kernel
theorem dX9_wordFrom_68 : decode cX9_wordFrom 68 = .ok (.iconst 2, 1) := by decide +kernel
theorem dX9_wordFrom_69 : decode cX9_wordFrom 69 = .ok (.iload 5, 2) := by decide +kernel
theorem dX9_wordFrom_71 : decode cX9_wordFrom 71 = .ok (.invokevirtual 78, 3) := by decide +kernel
theorem dX9_wordFrom_74 : decode cX9_wordFrom 74 = .ok (.ifCond .ne 5, 3) := by decide +kernel
theorem dX9_wordFrom_77 : decode cX9_wordFrom 77 = .ok (.iconst 0, 1) := by decide +kernel
theorem dX9_wordFrom_78 : decode cX9_wordFrom 78 = .ok (.ireturn, 1) := by decide +kernel
theorem dX9_wordFrom_79 : decode cX9_wordFrom 79 = .ok (.aload_n 0, 1) := by decide +kernel
theorem dX9_wordFrom_80 : decode cX9_wordFrom 80 = .ok (.getfield 10, 3) := by decide +kernel
theorem dX9_wordFrom_83 : decode cX9_wordFrom 83 = .ok (.iload_n 3, 1) := by decide +kernel
theorem dX9_wordFrom_84 : decode cX9_wordFrom 84 = .ok (.iload 4, 2) := by decide +kernel
theorem dX9_wordFrom_86 : decode cX9_wordFrom 86 = .ok (.iload 5, 2) := by decide +kernel
theorem dX9_wordFrom_88 : decode cX9_wordFrom 88 = .ok (.invokevirtual 82, 3) := by decide +kernel
theorem dX9_wordFrom_91 : decode cX9_wordFrom 91 = .ok (.ifCond .lt 7, 3) := by decide +kernel
theorem dX9_wordFrom_94 : decode cX9_wordFrom 94 = .ok (.iconst 1, 1) := by decide +kernel
theorem dX9_wordFrom_95 : decode cX9_wordFrom 95 = .ok (.goto 4, 3) := by decide +kernel
theorem dX9_wordFrom_98 : decode cX9_wordFrom 98 = .ok (.iconst 0, 1) := by decide +kernel
theorem dX9_wordFrom_99 : decode cX9_wordFrom 99 = .ok (.ireturn, 1) := by decide +kernel
theorem dX9_person_0 : decode cX9_person 0 = .ok (.aload_n 0, 1) := by decide +kernel
theorem dX9_person_1 : decode cX9_person 1 = .ok (.getfield 10, 3) := by decide +kernel
theorem dX9_person_4 : decode cX9_person 4 = .ok (.iconst 5, 1) := by decide +kernel
theorem dX9_person_5 : decode cX9_person 5 = .ok (.iload_n 1, 1) := by decide +kernel
theorem dX9_person_6 : decode cX9_person 6 = .ok (.invokevirtual 78, 3) := by decide +kernel
theorem dX9_person_9 : decode cX9_person 9 = .ok (.ifCond .eq 14, 3) := by decide +kernel
theorem dX9_person_12 : decode cX9_person 12 = .ok (.aload_n 0, 1) := by decide +kernel
theorem dX9_person_13 : decode cX9_person 13 = .ok (.getfield 10, 3) := by decide +kernel
theorem dX9_person_16 : decode cX9_person 16 = .ok (.iload_n 1, 1) := by decide +kernel
theorem dX9_person_17 : decode cX9_person 17 = .ok (.invokevirtual 105, 3) := by decide +kernel
theorem dX9_person_20 : decode cX9_person 20 = .ok (.goto 4, 3) := by decide +kernel
theorem dX9_person_23 : decode cX9_person 23 = .ok (.iconst (-1), 1) := by decide +kernel
theorem dX9_person_24 : decode cX9_person 24 = .ok (.ireturn, 1) := by decide +kernel
theorem dX9_mend_0 : decode cX9_mend 0 = .ok (.aload_n 0, 1) := by decide +kernel
theorem dX9_mend_1 : decode cX9_mend 1 = .ok (.getfield 10, 3) := by decide +kernel
theorem dX9_mend_4 : decode cX9_mend 4 = .ok (.iload_n 1, 1) := by decide +kernel
theorem dX9_mend_5 : decode cX9_mend 5 = .ok (.iload_n 2, 1) := by decide +kernel
theorem dX9_mend_6 : decode cX9_mend 6 = .ok (.invokevirtual 108, 3) := by decide +kernel
theorem dX9_mend_9 : decode cX9_mend 9 = .ok (.ifCond .eq 15, 3) := by decide +kernel
theorem dX9_mend_12 : decode cX9_mend 12 = .ok (.aload_n 0, 1) := by decide +kernel
theorem dX9_mend_13 : decode cX9_mend 13 = .ok (.getfield 10, 3) := by decide +kernel
theorem dX9_mend_16 : decode cX9_mend 16 = .ok (.iload_n 2, 1) := by decide +kernel
theorem dX9_mend_17 : decode cX9_mend 17 = .ok (.iload_n 3, 1) := by decide +kernel
theorem dX9_mend_18 : decode cX9_mend 18 = .ok (.invokevirtual 78, 3) := by decide +kernel
theorem dX9_mend_21 : decode cX9_mend 21 = .ok (.ifCond .ne 5, 3) := by decide +kernel
theorem dX9_mend_24 : decode cX9_mend 24 = .ok (.iconst (-1), 1) := by decide +kernel
theorem dX9_mend_25 : decode cX9_mend 25 = .ok (.ireturn, 1) := by decide +kernel
theorem dX9_mend_26 : decode cX9_mend 26 = .ok (.aload_n 0, 1) := by decide +kernel
theorem dX9_mend_27 : decode cX9_mend 27 = .ok (.getfield 10, 3) := by decide +kernel
theorem dX9_mend_30 : decode cX9_mend 30 = .ok (.iload_n 1, 1) := by decide +kernel
theorem dX9_mend_31 : decode cX9_mend 31 = .ok (.iload_n 2, 1) := by decide +kernel
theorem dX9_mend_32 : decode cX9_mend 32 = .ok (.invokevirtual 111, 3) := by decide +kernel
theorem dX9_mend_35 : decode cX9_mend 35 = .ok (.istore 4, 2) := by decide +kernel
theorem dX9_mend_37 : decode cX9_mend 37 = .ok (.iload 4, 2) := by decide +kernel
theorem dX9_mend_39 : decode cX9_mend 39 = .ok (.iload_n 3, 1) := by decide +kernel
theorem dX9_mend_40 : decode cX9_mend 40 = .ok (.if_icmp .eq 25, 3) := by decide +kernel
theorem dX9_mend_43 : decode cX9_mend 43 = .ok (.aload_n 0, 1) := by decide +kernel
theorem dX9_mend_44 : decode cX9_mend 44 = .ok (.getfield 10, 3) := by decide +kernel
theorem dX9_mend_47 : decode cX9_mend 47 = .ok (.iload_n 1, 1) := by decide +kernel
theorem dX9_mend_48 : decode cX9_mend 48 = .ok (.iload_n 2, 1) := by decide +kernel
theorem dX9_mend_49 : decode cX9_mend 49 = .ok (.iload_n 3, 1) := by decide +kernel
theorem dX9_mend_50 : decode cX9_mend 50 = .ok (.invokevirtual 114, 3) := by decide +kernel
theorem dX9_mend_53 : decode cX9_mend 53 = .ok (.aload_n 0, 1) := by decide +kernel
theorem dX9_mend_54 : decode cX9_mend 54 = .ok (.getfield 67, 3) := by decide +kernel
theorem dX9_mend_57 : decode cX9_mend 57 = .ok (.iload_n 1, 1) := by decide +kernel
theorem dX9_mend_58 : decode cX9_mend 58 = .ok (.iload_n 2, 1) := by decide +kernel
theorem dX9_mend_59 : decode cX9_mend 59 = .ok (.iload 4, 2) := by decide +kernel
theorem dX9_mend_61 : decode cX9_mend 61 = .ok (.iload_n 3, 1) := by decide +kernel
theorem dX9_mend_62 : decode cX9_mend 62 = .ok (.invokevirtual 118, 3) := by decide +kernel
theorem dX9_mend_65 : decode cX9_mend 65 = .ok (.iload 4, 2) := by decide +kernel
theorem dX9_mend_67 : decode cX9_mend 67 = .ok (.ireturn, 1) := by decide +kernel
theorem dX9_of_0 : decode cX9_of 0 = .ok (.aload_n 0, 1) := by decide +kernel
theorem dX9_of_1 : decode cX9_of 1 = .ok (.getfield 10, 3) := by decide +kernel
theorem dX9_of_4 : decode cX9_of 4 = .ok (.iload_n 1, 1) := by decide +kernel
theorem dX9_of_5 : decode cX9_of 5 = .ok (.iload_n 2, 1) := by decide +kernel
theorem dX9_of_6 : decode cX9_of 6 = .ok (.invokevirtual 108, 3) := by decide +kernel
theorem dX9_of_9 : decode cX9_of 9 = .ok (.ifCond .eq 15, 3) := by decide +kernel
theorem dX9_of_12 : decode cX9_of 12 = .ok (.aload_n 0, 1) := by decide +kernel
theorem dX9_of_13 : decode cX9_of 13 = .ok (.getfield 10, 3) := by decide +kernel
theorem dX9_of_16 : decode cX9_of 16 = .ok (.iload_n 1, 1) := by decide +kernel
theorem dX9_of_17 : decode cX9_of 17 = .ok (.iload_n 2, 1) := by decide +kernel
theorem dX9_of_18 : decode cX9_of 18 = .ok (.invokevirtual 111, 3) := by decide +kernel
theorem dX9_of_21 : decode cX9_of 21 = .ok (.goto 4, 3) := by decide +kernel
theorem dX9_of_24 : decode cX9_of 24 = .ok (.iconst (-1), 1) := by decide +kernel
theorem dX9_of_25 : decode cX9_of 25 = .ok (.ireturn, 1) := by decide +kernel
theorem dX9_feed_0 : decode cX9_feed 0 = .ok (.iload_n 1, 1) := by decide +kernel
theorem dX9_feed_1 : decode cX9_feed 1 = .ok (.iconst 0, 1) := by decide +kernel
theorem dX9_feed_2 : decode cX9_feed 2 = .ok (.sipush 255, 3) := by decide +kernel
theorem dX9_feed_5 : decode cX9_feed 5 = .ok (.invokestatic 86, 3) := by decide +kernel
theorem dX9_feed_8 : decode cX9_feed 8 = .ok (.ifCond .eq 14, 3) := by decide +kernel
theorem dX9_feed_11 : decode cX9_feed 11 = .ok (.aload_n 0, 1) := by decide +kernel
theorem dX9_feed_12 : decode cX9_feed 12 = .ok (.getfield 21, 3) := by decide +kernel
theorem dX9_feed_15 : decode cX9_feed 15 = .ok (.iload_n 1, 1) := by decide +kernel
theorem dX9_feed_16 : decode cX9_feed 16 = .ok (.invokevirtual 122, 3) := by decide +kernel
theorem dX9_feed_19 : decode cX9_feed 19 = .ok (.goto 4, 3) := by decide +kernel
theorem dX9_feed_22 : decode cX9_feed 22 = .ok (.iconst (-1), 1) := by decide +kernel
theorem dX9_feed_23 : decode cX9_feed 23 = .ok (.ireturn, 1) := by decide +kernel
theorem dX9_law_0 : decode cX9_law 0 = .ok (.aload_n 0, 1) := by decide +kernel
theorem dX9_law_1 : decode cX9_law 1 = .ok (.getfield 21, 3) := by decide +kernel
theorem dX9_law_4 : decode cX9_law 4 = .ok (.invokevirtual 125, 3) := by decide +kernel
theorem dX9_law_7 : decode cX9_law 7 = .ok (.ireturn, 1) := by decide +kernel
theorem dX9_price_0 : decode cX9_price 0 = .ok (.iload_n 2, 1) := by decide +kernel
theorem dX9_price_1 : decode cX9_price 1 = .ok (.bipush 100, 2) := by decide +kernel
theorem dX9_price_3 : decode cX9_price 3 = .ok (.idiv, 1) := by decide +kernel
theorem dX9_price_4 : decode cX9_price 4 = .ok (.istore_n 3, 1) := by decide +kernel
theorem dX9_price_5 : decode cX9_price 5 = .ok (.iload_n 2, 1) := by decide +kernel
theorem dX9_price_6 : decode cX9_price 6 = .ok (.bipush 100, 2) := by decide +kernel
theorem dX9_price_8 : decode cX9_price 8 = .ok (.irem, 1) := by decide +kernel
theorem dX9_price_9 : decode cX9_price 9 = .ok (.istore 4, 2) := by decide +kernel
theorem dX9_price_11 : decode cX9_price 11 = .ok (.aload_n 0, 1) := by decide +kernel
theorem dX9_price_12 : decode cX9_price 12 = .ok (.getfield 10, 3) := by decide +kernel
theorem dX9_price_15 : decode cX9_price 15 = .ok (.iload_n 1, 1) := by decide +kernel
theorem dX9_price_16 : decode cX9_price 16 = .ok (.iconst 0, 1) := by decide +kernel
theorem dX9_price_17 : decode cX9_price 17 = .ok (.invokevirtual 108, 3) := by decide +kernel
theorem dX9_price_20 : decode cX9_price 20 = .ok (.ifCond .eq 23, 3) := by decide +kernel
theorem dX9_price_23 : decode cX9_price 23 = .ok (.iload_n 3, 1) := by decide +kernel
theorem dX9_price_24 : decode cX9_price 24 = .ok (.iconst 0, 1) := by decide +kernel
theorem dX9_price_25 : decode cX9_price 25 = .ok (.iconst 3, 1) := by decide +kernel
theorem dX9_price_26 : decode cX9_price 26 = .ok (.invokestatic 86, 3) := by decide +kernel
theorem dX9_price_29 : decode cX9_price 29 = .ok (.ifCond .eq 14, 3) := by decide +kernel
theorem dX9_price_32 : decode cX9_price 32 = .ok (.iload 4, 2) := by decide +kernel
theorem dX9_price_34 : decode cX9_price 34 = .ok (.iconst 0, 1) := by decide +kernel
theorem dX9_price_35 : decode cX9_price 35 = .ok (.bipush 11, 2) := by decide +kernel
theorem dX9_price_37 : decode cX9_price 37 = .ok (.invokestatic 86, 3) := by decide +kernel
theorem dX9_price_40 : decode cX9_price 40 = .ok (.ifCond .ne 5, 3) := by decide +kernel
theorem dX9_price_43 : decode cX9_price 43 = .ok (.iconst (-1), 1) := by decide +kernel
theorem dX9_price_44 : decode cX9_price 44 = .ok (.ireturn, 1) := by decide +kernel
theorem dX9_price_45 : decode cX9_price 45 = .ok (.aload_n 0, 1) := by decide +kernel
theorem dX9_price_46 : decode cX9_price 46 = .ok (.getfield 21, 3) := by decide +kernel
theorem dX9_price_49 : decode cX9_price 49 = .ok (.iload_n 1, 1) := by decide +kernel
theorem dX9_price_50 : decode cX9_price 50 = .ok (.iload_n 3, 1) := by decide +kernel
theorem dX9_price_51 : decode cX9_price 51 = .ok (.iload 4, 2) := by decide +kernel
theorem dX9_price_53 : decode cX9_price 53 = .ok (.invokevirtual 129, 3) := by decide +kernel
theorem dX9_price_56 : decode cX9_price 56 = .ok (.ireturn, 1) := by decide +kernel
theorem dX9_wire_0 : decode cX9_wire 0 = .ok (.iload_n 2, 1) := by decide +kernel
theorem dX9_wire_1 : decode cX9_wire 1 = .ok (.iconst 0, 1) := by decide +kernel
theorem dX9_wire_2 : decode cX9_wire 2 = .ok (.iconst 5, 1) := by decide +kernel
theorem dX9_wire_3 : decode cX9_wire 3 = .ok (.invokestatic 86, 3) := by decide +kernel
theorem dX9_wire_6 : decode cX9_wire 6 = .ok (.ifCond .eq 11, 3) := by decide +kernel
theorem dX9_wire_9 : decode cX9_wire 9 = .ok (.aload_n 0, 1) := by decide +kernel
theorem dX9_wire_10 : decode cX9_wire 10 = .ok (.iload_n 1, 1) := by decide +kernel
theorem dX9_wire_11 : decode cX9_wire 11 = .ok (.invokevirtual 132, 3) := by decide +kernel
theorem dX9_wire_14 : decode cX9_wire 14 = .ok (.goto 4, 3) := by decide +kernel
theorem dX9_wire_17 : decode cX9_wire 17 = .ok (.iconst (-1), 1) := by decide +kernel
theorem dX9_wire_18 : decode cX9_wire 18 = .ok (.istore_n 3, 1) := by decide +kernel
theorem dX9_wire_19 : decode cX9_wire 19 = .ok (.iload_n 3, 1) := by decide +kernel
theorem dX9_wire_20 : decode cX9_wire 20 = .ok (.ifCond .eq 5, 3) := by decide +kernel
theorem dX9_wire_23 : decode cX9_wire 23 = .ok (.iload_n 3, 1) := by decide +kernel
theorem dX9_wire_24 : decode cX9_wire 24 = .ok (.ireturn, 1) := by decide +kernel
theorem dX9_wire_25 : decode cX9_wire 25 = .ok (.iload_n 2, 1) := by decide +kernel
theorem dX9_wire_26 : decode cX9_wire 26 = .ok (.tableswitch 82 0 4 #[34, 42, 50, 66, 74], 34) := by decide +kernel
theorem dX9_wire_60 : decode cX9_wire 60 = .ok (.aload_n 0, 1) := by decide +kernel
theorem dX9_wire_61 : decode cX9_wire 61 = .ok (.getfield 37, 3) := by decide +kernel
theorem dX9_wire_64 : decode cX9_wire 64 = .ok (.invokevirtual 135, 3) := by decide +kernel
theorem dX9_wire_67 : decode cX9_wire 67 = .ok (.ireturn, 1) := by decide +kernel
theorem dX9_wire_68 : decode cX9_wire 68 = .ok (.aload_n 0, 1) := by decide +kernel
theorem dX9_wire_69 : decode cX9_wire 69 = .ok (.getfield 37, 3) := by decide +kernel
theorem dX9_wire_72 : decode cX9_wire 72 = .ok (.invokevirtual 138, 3) := by decide +kernel
theorem dX9_wire_75 : decode cX9_wire 75 = .ok (.ireturn, 1) := by decide +kernel
theorem dX9_wire_76 : decode cX9_wire 76 = .ok (.aload_n 0, 1) := by decide +kernel
theorem dX9_wire_77 : decode cX9_wire 77 = .ok (.getfield 37, 3) := by decide +kernel
theorem dX9_wire_80 : decode cX9_wire 80 = .ok (.invokevirtual 141, 3) := by decide +kernel
theorem dX9_wire_83 : decode cX9_wire 83 = .ok (.ifCond .eq 7, 3) := by decide +kernel
theorem dX9_wire_86 : decode cX9_wire 86 = .ok (.iconst 1, 1) := by decide +kernel
theorem dX9_wire_87 : decode cX9_wire 87 = .ok (.goto 4, 3) := by decide +kernel
theorem dX9_wire_90 : decode cX9_wire 90 = .ok (.iconst 0, 1) := by decide +kernel
theorem dX9_wire_91 : decode cX9_wire 91 = .ok (.ireturn, 1) := by decide +kernel
theorem dX9_wire_92 : decode cX9_wire 92 = .ok (.aload_n 0, 1) := by decide +kernel
theorem dX9_wire_93 : decode cX9_wire 93 = .ok (.getfield 37, 3) := by decide +kernel
theorem dX9_wire_96 : decode cX9_wire 96 = .ok (.getfield 145, 3) := by decide +kernel
theorem dX9_wire_99 : decode cX9_wire 99 = .ok (.ireturn, 1) := by decide +kernel
theorem dX9_wire_100 : decode cX9_wire 100 = .ok (.aload_n 0, 1) := by decide +kernel
theorem dX9_wire_101 : decode cX9_wire 101 = .ok (.getfield 37, 3) := by decide +kernel
theorem dX9_wire_104 : decode cX9_wire 104 = .ok (.invokevirtual 149, 3) := by decide +kernel
theorem dX9_wire_107 : decode cX9_wire 107 = .ok (.ireturn, 1) := by decide +kernel
theorem dX9_wire_108 : decode cX9_wire 108 = .ok (.aload_n 0, 1) := by decide +kernel
theorem dX9_wire_109 : decode cX9_wire 109 = .ok (.getfield 37, 3) := by decide +kernel
theorem dX9_wire_112 : decode cX9_wire 112 = .ok (.invokevirtual 152, 3) := by decide +kernel
theorem dX9_wire_115 : decode cX9_wire 115 = .ok (.ireturn, 1) := by decide +kernel
theorem dX9_opened_0 : decode cX9_opened 0 = .ok (.aload_n 0, 1) := by decide +kernel
theorem dX9_opened_1 : decode cX9_opened 1 = .ok (.getfield 28, 3) := by decide +kernel
theorem dX9_opened_4 : decode cX9_opened 4 = .ok (.iload_n 1, 1) := by decide +kernel
theorem dX9_opened_5 : decode cX9_opened 5 = .ok (.iconst 0, 1) := by decide +kernel
theorem dX9_opened_6 : decode cX9_opened 6 = .ok (.invokevirtual 90, 3) := by decide +kernel
theorem dX9_opened_9 : decode cX9_opened 9 = .ok (.istore_n 2, 1) := by decide +kernel
theorem dX9_opened_10 : decode cX9_opened 10 = .ok (.iload_n 2, 1) := by decide +kernel
theorem dX9_opened_11 : decode cX9_opened 11 = .ok (.ifCond .ne 15, 3) := by decide +kernel
theorem dX9_opened_14 : decode cX9_opened 14 = .ok (.aload_n 0, 1) := by decide +kernel
theorem dX9_opened_15 : decode cX9_opened 15 = .ok (.getfield 37, 3) := by decide +kernel
theorem dX9_opened_18 : decode cX9_opened 18 = .ok (.aload_n 0, 1) := by decide +kernel
theorem dX9_opened_19 : decode cX9_opened 19 = .ok (.getfield 28, 3) := by decide +kernel
theorem dX9_opened_22 : decode cX9_opened 22 = .ok (.iload_n 1, 1) := by decide +kernel
theorem dX9_opened_23 : decode cX9_opened 23 = .ok (.invokevirtual 155, 3) := by decide +kernel
theorem dX9_opened_26 : decode cX9_opened 26 = .ok (.iload_n 2, 1) := by decide +kernel
theorem dX9_opened_27 : decode cX9_opened 27 = .ok (.ireturn, 1) := by decide +kernel
theorem dX9_say_0 : decode cX9_say 0 = .ok (.iload_n 1, 1) := by decide +kernel
theorem dX9_say_1 : decode cX9_say 1 = .ok (.iconst 0, 1) := by decide +kernel
theorem dX9_say_2 : decode cX9_say 2 = .ok (.sipush 4095, 3) := by decide +kernel
theorem dX9_say_5 : decode cX9_say 5 = .ok (.invokestatic 86, 3) := by decide +kernel
theorem dX9_say_8 : decode cX9_say 8 = .ok (.ifCond .eq 9, 3) := by decide +kernel
theorem dX9_say_11 : decode cX9_say 11 = .ok (.iload_n 2, 1) := by decide +kernel
theorem dX9_say_12 : decode cX9_say 12 = .ok (.bipush (-2), 2) := by decide +kernel
theorem dX9_say_14 : decode cX9_say 14 = .ok (.if_icmp .ge 5, 3) := by decide +kernel
theorem dX9_say_17 : decode cX9_say 17 = .ok (.iconst (-1), 1) := by decide +kernel
theorem dX9_say_18 : decode cX9_say 18 = .ok (.ireturn, 1) := by decide +kernel
theorem dX9_say_19 : decode cX9_say 19 = .ok (.aload_n 0, 1) := by decide +kernel
theorem dX9_say_20 : decode cX9_say 20 = .ok (.getfield 44, 3) := by decide +kernel
theorem dX9_say_23 : decode cX9_say 23 = .ok (.iload_n 1, 1) := by decide +kernel
theorem dX9_say_24 : decode cX9_say 24 = .ok (.bipush 64, 2) := by decide +kernel
theorem dX9_say_26 : decode cX9_say 26 = .ok (.idiv, 1) := by decide +kernel
theorem dX9_say_27 : decode cX9_say 27 = .ok (.iload_n 1, 1) := by decide +kernel
theorem dX9_say_28 : decode cX9_say 28 = .ok (.bipush 64, 2) := by decide +kernel
theorem dX9_say_30 : decode cX9_say 30 = .ok (.irem, 1) := by decide +kernel
theorem dX9_say_31 : decode cX9_say 31 = .ok (.invokevirtual 159, 3) := by decide +kernel
theorem dX9_say_34 : decode cX9_say 34 = .ok (.lstore_n 3, 1) := by decide +kernel
theorem dX9_say_35 : decode cX9_say 35 = .ok (.lload_n 3, 1) := by decide +kernel
theorem dX9_say_36 : decode cX9_say 36 = .ok (.lconst 0, 1) := by decide +kernel
theorem dX9_say_37 : decode cX9_say 37 = .ok (.lcmp, 1) := by decide +kernel
theorem dX9_say_38 : decode cX9_say 38 = .ok (.ifCond .ge 6, 3) := by decide +kernel
theorem dX9_say_41 : decode cX9_say 41 = .ok (.bipush (-2), 2) := by decide +kernel
theorem dX9_say_43 : decode cX9_say 43 = .ok (.ireturn, 1) := by decide +kernel
theorem dX9_say_44 : decode cX9_say 44 = .ok (.iload_n 2, 1) := by decide +kernel
theorem dX9_say_45 : decode cX9_say 45 = .ok (.iconst (-1), 1) := by decide +kernel
theorem dX9_say_46 : decode cX9_say 46 = .ok (.if_icmp .ne 8, 3) := by decide +kernel
theorem dX9_say_49 : decode cX9_say 49 = .ok (.lload_n 3, 1) := by decide +kernel
theorem dX9_say_50 : decode cX9_say 50 = .ok (.invokestatic 162, 3) := by decide +kernel
theorem dX9_say_53 : decode cX9_say 53 = .ok (.ireturn, 1) := by decide +kernel
theorem dX9_say_54 : decode cX9_say 54 = .ok (.lload_n 3, 1) := by decide +kernel
theorem dX9_say_55 : decode cX9_say 55 = .ok (.invokestatic 166, 3) := by decide +kernel
theorem dX9_say_58 : decode cX9_say 58 = .ok (.istore 5, 2) := by decide +kernel
theorem dX9_say_60 : decode cX9_say 60 = .ok (.iload_n 2, 1) := by decide +kernel
theorem dX9_say_61 : decode cX9_say 61 = .ok (.bipush (-2), 2) := by decide +kernel
theorem dX9_say_63 : decode cX9_say 63 = .ok (.if_icmp .ne 6, 3) := by decide +kernel
theorem dX9_say_66 : decode cX9_say 66 = .ok (.iload 5, 2) := by decide +kernel
theorem dX9_say_68 : decode cX9_say 68 = .ok (.ireturn, 1) := by decide +kernel
theorem dX9_say_69 : decode cX9_say 69 = .ok (.iload_n 2, 1) := by decide +kernel
theorem dX9_say_70 : decode cX9_say 70 = .ok (.iload 5, 2) := by decide +kernel
theorem dX9_say_72 : decode cX9_say 72 = .ok (.if_icmp .ge 11, 3) := by decide +kernel
theorem dX9_say_75 : decode cX9_say 75 = .ok (.lload_n 3, 1) := by decide +kernel
theorem dX9_say_76 : decode cX9_say 76 = .ok (.iload_n 2, 1) := by decide +kernel
theorem dX9_say_77 : decode cX9_say 77 = .ok (.invokestatic 169, 3) := by decide +kernel
theorem dX9_say_80 : decode cX9_say 80 = .ok (.goto 5, 3) := by decide +kernel
theorem dX9_say_83 : decode cX9_say 83 = .ok (.bipush (-2), 2) := by decide +kernel
theorem dX9_say_85 : decode cX9_say 85 = .ok (.ireturn, 1) := by decide +kernel
theorem dX9_allFor_0 : decode cX9_allFor 0 = .ok (.iload_n 1, 1) := by decide +kernel
theorem dX9_allFor_1 : decode cX9_allFor 1 = .ok (.iconst 0, 1) := by decide +kernel
theorem dX9_allFor_2 : decode cX9_allFor 2 = .ok (.sipush 999, 3) := by decide +kernel
theorem dX9_allFor_5 : decode cX9_allFor 5 = .ok (.invokestatic 86, 3) := by decide +kernel
theorem dX9_allFor_8 : decode cX9_allFor 8 = .ok (.ifCond .eq 12, 3) := by decide +kernel
theorem dX9_allFor_11 : decode cX9_allFor 11 = .ok (.iload_n 2, 1) := by decide +kernel
theorem dX9_allFor_12 : decode cX9_allFor 12 = .ok (.iconst 0, 1) := by decide +kernel
theorem dX9_allFor_13 : decode cX9_allFor 13 = .ok (.iconst 1, 1) := by decide +kernel
theorem dX9_allFor_14 : decode cX9_allFor 14 = .ok (.invokestatic 86, 3) := by decide +kernel
theorem dX9_allFor_17 : decode cX9_allFor 17 = .ok (.ifCond .ne 5, 3) := by decide +kernel
theorem dX9_allFor_20 : decode cX9_allFor 20 = .ok (.iconst (-1), 1) := by decide +kernel
theorem dX9_allFor_21 : decode cX9_allFor 21 = .ok (.ireturn, 1) := by decide +kernel
theorem dX9_allFor_22 : decode cX9_allFor 22 = .ok (.aload_n 0, 1) := by decide +kernel
theorem dX9_allFor_23 : decode cX9_allFor 23 = .ok (.getfield 44, 3) := by decide +kernel
theorem dX9_allFor_26 : decode cX9_allFor 26 = .ok (.iload_n 1, 1) := by decide +kernel
theorem dX9_allFor_27 : decode cX9_allFor 27 = .ok (.invokevirtual 173, 3) := by decide +kernel
theorem dX9_allFor_30 : decode cX9_allFor 30 = .ok (.istore_n 3, 1) := by decide +kernel
theorem dX9_allFor_31 : decode cX9_allFor 31 = .ok (.iload_n 3, 1) := by decide +kernel
theorem dX9_allFor_32 : decode cX9_allFor 32 = .ok (.ifCond .ge 6, 3) := by decide +kernel
theorem dX9_allFor_35 : decode cX9_allFor 35 = .ok (.bipush (-2), 2) := by decide +kernel
theorem dX9_allFor_37 : decode cX9_allFor 37 = .ok (.ireturn, 1) := by decide +kernel
theorem dX9_allFor_38 : decode cX9_allFor 38 = .ok (.iload_n 2, 1) := by decide +kernel
theorem dX9_allFor_39 : decode cX9_allFor 39 = .ok (.ifCond .ne 10, 3) := by decide +kernel
theorem dX9_allFor_42 : decode cX9_allFor 42 = .ok (.iload_n 3, 1) := by decide +kernel
theorem dX9_allFor_43 : decode cX9_allFor 43 = .ok (.invokestatic 176, 3) := by decide +kernel
theorem dX9_allFor_46 : decode cX9_allFor 46 = .ok (.goto 4, 3) := by decide +kernel
theorem dX9_allFor_49 : decode cX9_allFor 49 = .ok (.iload_n 3, 1) := by decide +kernel
theorem dX9_allFor_50 : decode cX9_allFor 50 = .ok (.ireturn, 1) := by decide +kernel
theorem dX9_tooDear_0 : decode cX9_tooDear 0 = .ok (.aload_n 0, 1) := by decide +kernel
theorem dX9_tooDear_1 : decode cX9_tooDear 1 = .ok (.getfield 10, 3) := by decide +kernel
theorem dX9_tooDear_4 : decode cX9_tooDear 4 = .ok (.iload_n 1, 1) := by decide +kernel
theorem dX9_tooDear_5 : decode cX9_tooDear 5 = .ok (.iconst 5, 1) := by decide +kernel
theorem dX9_tooDear_6 : decode cX9_tooDear 6 = .ok (.invokevirtual 108, 3) := by decide +kernel
theorem dX9_tooDear_9 : decode cX9_tooDear 9 = .ok (.ifCond .ne 5, 3) := by decide +kernel
theorem dX9_tooDear_12 : decode cX9_tooDear 12 = .ok (.iconst (-1), 1) := by decide +kernel
theorem dX9_tooDear_13 : decode cX9_tooDear 13 = .ok (.ireturn, 1) := by decide +kernel
theorem dX9_tooDear_14 : decode cX9_tooDear 14 = .ok (.aload_n 0, 1) := by decide +kernel
theorem dX9_tooDear_15 : decode cX9_tooDear 15 = .ok (.getfield 44, 3) := by decide +kernel
theorem dX9_tooDear_18 : decode cX9_tooDear 18 = .ok (.aload_n 0, 1) := by decide +kernel
theorem dX9_tooDear_19 : decode cX9_tooDear 19 = .ok (.getfield 10, 3) := by decide +kernel
theorem dX9_tooDear_22 : decode cX9_tooDear 22 = .ok (.iload_n 1, 1) := by decide +kernel
theorem dX9_tooDear_23 : decode cX9_tooDear 23 = .ok (.iconst 5, 1) := by decide +kernel
theorem dX9_tooDear_24 : decode cX9_tooDear 24 = .ok (.invokevirtual 111, 3) := by decide +kernel
theorem dX9_tooDear_27 : decode cX9_tooDear 27 = .ok (.invokevirtual 181, 3) := by decide +kernel
theorem dX9_tooDear_30 : decode cX9_tooDear 30 = .ok (.iconst (-1), 1) := by decide +kernel
theorem dX9_tooDear_31 : decode cX9_tooDear 31 = .ok (.ixor, 1) := by decide +kernel
theorem dX9_tooDear_32 : decode cX9_tooDear 32 = .ok (.bipush 63, 2) := by decide +kernel
theorem dX9_tooDear_34 : decode cX9_tooDear 34 = .ok (.iand, 1) := by decide +kernel
theorem dX9_tooDear_35 : decode cX9_tooDear 35 = .ok (.ireturn, 1) := by decide +kernel
theorem dX9_year_0 : decode cX9_year 0 = .ok (.aload_n 0, 1) := by decide +kernel
theorem dX9_year_1 : decode cX9_year 1 = .ok (.getfield 10, 3) := by decide +kernel
theorem dX9_year_4 : decode cX9_year 4 = .ok (.iload_n 2, 1) := by decide +kernel
theorem dX9_year_5 : decode cX9_year 5 = .ok (.iconst 5, 1) := by decide +kernel
theorem dX9_year_6 : decode cX9_year 6 = .ok (.invokevirtual 108, 3) := by decide +kernel
theorem dX9_year_9 : decode cX9_year 9 = .ok (.ifCond .eq 12, 3) := by decide +kernel
theorem dX9_year_12 : decode cX9_year 12 = .ok (.iload_n 3, 1) := by decide +kernel
theorem dX9_year_13 : decode cX9_year 13 = .ok (.iconst 0, 1) := by decide +kernel
theorem dX9_year_14 : decode cX9_year 14 = .ok (.iconst 1, 1) := by decide +kernel
theorem dX9_year_15 : decode cX9_year 15 = .ok (.invokestatic 86, 3) := by decide +kernel
theorem dX9_year_18 : decode cX9_year 18 = .ok (.ifCond .ne 5, 3) := by decide +kernel
theorem dX9_year_21 : decode cX9_year 21 = .ok (.iconst (-1), 1) := by decide +kernel
theorem dX9_year_22 : decode cX9_year 22 = .ok (.ireturn, 1) := by decide +kernel
theorem dX9_year_23 : decode cX9_year 23 = .ok (.aload_n 0, 1) := by decide +kernel
theorem dX9_year_24 : decode cX9_year 24 = .ok (.getfield 28, 3) := by decide +kernel
theorem dX9_year_27 : decode cX9_year 27 = .ok (.iload_n 1, 1) := by decide +kernel
theorem dX9_year_28 : decode cX9_year 28 = .ok (.iconst 1, 1) := by decide +kernel
theorem dX9_year_29 : decode cX9_year 29 = .ok (.invokevirtual 90, 3) := by decide +kernel
theorem dX9_year_32 : decode cX9_year 32 = .ok (.istore 4, 2) := by decide +kernel
theorem dX9_year_34 : decode cX9_year 34 = .ok (.iload 4, 2) := by decide +kernel
theorem dX9_year_36 : decode cX9_year 36 = .ok (.ifCond .eq 6, 3) := by decide +kernel
theorem dX9_year_39 : decode cX9_year 39 = .ok (.iload 4, 2) := by decide +kernel
theorem dX9_year_41 : decode cX9_year 41 = .ok (.ireturn, 1) := by decide +kernel
theorem dX9_year_42 : decode cX9_year 42 = .ok (.aload_n 0, 1) := by decide +kernel
theorem dX9_year_43 : decode cX9_year 43 = .ok (.iload_n 1, 1) := by decide +kernel
theorem dX9_year_44 : decode cX9_year 44 = .ok (.aload_n 0, 1) := by decide +kernel
theorem dX9_year_45 : decode cX9_year 45 = .ok (.getfield 10, 3) := by decide +kernel
theorem dX9_year_48 : decode cX9_year 48 = .ok (.iload_n 2, 1) := by decide +kernel
theorem dX9_year_49 : decode cX9_year 49 = .ok (.iconst 5, 1) := by decide +kernel
theorem dX9_year_50 : decode cX9_year 50 = .ok (.invokevirtual 111, 3) := by decide +kernel
theorem dX9_year_53 : decode cX9_year 53 = .ok (.invokevirtual 184, 3) := by decide +kernel
theorem dX9_year_56 : decode cX9_year 56 = .ok (.istore 5, 2) := by decide +kernel
theorem dX9_year_58 : decode cX9_year 58 = .ok (.iload_n 3, 1) := by decide +kernel
theorem dX9_year_59 : decode cX9_year 59 = .ok (.ifCond .ne 14, 3) := by decide +kernel
theorem dX9_year_62 : decode cX9_year 62 = .ok (.aload_n 0, 1) := by decide +kernel
theorem dX9_year_63 : decode cX9_year 63 = .ok (.iload_n 1, 1) := by decide +kernel
theorem dX9_year_64 : decode cX9_year 64 = .ok (.iload 5, 2) := by decide +kernel
theorem dX9_year_66 : decode cX9_year 66 = .ok (.iconst 1, 1) := by decide +kernel
theorem dX9_year_67 : decode cX9_year 67 = .ok (.invokevirtual 187, 3) := by decide +kernel
theorem dX9_year_70 : decode cX9_year 70 = .ok (.goto 5, 3) := by decide +kernel
theorem dX9_year_73 : decode cX9_year 73 = .ok (.iload 5, 2) := by decide +kernel
theorem dX9_year_75 : decode cX9_year 75 = .ok (.ireturn, 1) := by decide +kernel
theorem dX9_offersOn_0 : decode cX9_offersOn 0 = .ok (.aload_n 0, 1) := by decide +kernel
theorem dX9_offersOn_1 : decode cX9_offersOn 1 = .ok (.getfield 28, 3) := by decide +kernel
theorem dX9_offersOn_4 : decode cX9_offersOn 4 = .ok (.iload_n 1, 1) := by decide +kernel
theorem dX9_offersOn_5 : decode cX9_offersOn 5 = .ok (.invokevirtual 94, 3) := by decide +kernel
theorem dX9_offersOn_8 : decode cX9_offersOn 8 = .ok (.istore_n 2, 1) := by decide +kernel
theorem dX9_offersOn_9 : decode cX9_offersOn 9 = .ok (.iconst 0, 1) := by decide +kernel
theorem dX9_offersOn_10 : decode cX9_offersOn 10 = .ok (.istore_n 3, 1) := by decide +kernel
theorem dX9_offersOn_11 : decode cX9_offersOn 11 = .ok (.iload_n 3, 1) := by decide +kernel
theorem dX9_offersOn_12 : decode cX9_offersOn 12 = .ok (.bipush 8, 2) := by decide +kernel
theorem dX9_offersOn_14 : decode cX9_offersOn 14 = .ok (.if_icmp .ge 68, 3) := by decide +kernel
theorem dX9_offersOn_17 : decode cX9_offersOn 17 = .ok (.iconst 2, 1) := by decide +kernel
theorem dX9_offersOn_18 : decode cX9_offersOn 18 = .ok (.iload_n 3, 1) := by decide +kernel
theorem dX9_offersOn_19 : decode cX9_offersOn 19 = .ok (.imul, 1) := by decide +kernel
theorem dX9_offersOn_20 : decode cX9_offersOn 20 = .ok (.iconst 1, 1) := by decide +kernel
theorem dX9_offersOn_21 : decode cX9_offersOn 21 = .ok (.iadd, 1) := by decide +kernel
theorem dX9_offersOn_22 : decode cX9_offersOn 22 = .ok (.iload_n 2, 1) := by decide +kernel
theorem dX9_offersOn_23 : decode cX9_offersOn 23 = .ok (.if_icmp .ge 51, 3) := by decide +kernel
theorem dX9_offersOn_26 : decode cX9_offersOn 26 = .ok (.aload_n 0, 1) := by decide +kernel
theorem dX9_offersOn_27 : decode cX9_offersOn 27 = .ok (.getfield 10, 3) := by decide +kernel
theorem dX9_offersOn_30 : decode cX9_offersOn 30 = .ok (.iconst 5, 1) := by decide +kernel
theorem dX9_offersOn_31 : decode cX9_offersOn 31 = .ok (.aload_n 0, 1) := by decide +kernel
theorem dX9_offersOn_32 : decode cX9_offersOn 32 = .ok (.getfield 28, 3) := by decide +kernel
theorem dX9_offersOn_35 : decode cX9_offersOn 35 = .ok (.iload_n 1, 1) := by decide +kernel
theorem dX9_offersOn_36 : decode cX9_offersOn 36 = .ok (.iconst 2, 1) := by decide +kernel
theorem dX9_offersOn_37 : decode cX9_offersOn 37 = .ok (.iload_n 3, 1) := by decide +kernel
theorem dX9_offersOn_38 : decode cX9_offersOn 38 = .ok (.imul, 1) := by decide +kernel
theorem dX9_offersOn_39 : decode cX9_offersOn 39 = .ok (.invokevirtual 101, 3) := by decide +kernel
theorem dX9_offersOn_42 : decode cX9_offersOn 42 = .ok (.l2i, 1) := by decide +kernel
theorem dX9_offersOn_43 : decode cX9_offersOn 43 = .ok (.invokevirtual 78, 3) := by decide +kernel
theorem dX9_offersOn_46 : decode cX9_offersOn 46 = .ok (.ifCond .eq 28, 3) := by decide +kernel
theorem dX9_offersOn_49 : decode cX9_offersOn 49 = .ok (.aload_n 0, 1) := by decide +kernel
theorem dX9_offersOn_50 : decode cX9_offersOn 50 = .ok (.getfield 10, 3) := by decide +kernel
theorem dX9_offersOn_53 : decode cX9_offersOn 53 = .ok (.iconst 5, 1) := by decide +kernel
theorem dX9_offersOn_54 : decode cX9_offersOn 54 = .ok (.aload_n 0, 1) := by decide +kernel
theorem dX9_offersOn_55 : decode cX9_offersOn 55 = .ok (.getfield 28, 3) := by decide +kernel
theorem dX9_offersOn_58 : decode cX9_offersOn 58 = .ok (.iload_n 1, 1) := by decide +kernel
theorem dX9_offersOn_59 : decode cX9_offersOn 59 = .ok (.iconst 2, 1) := by decide +kernel
theorem dX9_offersOn_60 : decode cX9_offersOn 60 = .ok (.iload_n 3, 1) := by decide +kernel
theorem dX9_offersOn_61 : decode cX9_offersOn 61 = .ok (.imul, 1) := by decide +kernel
theorem dX9_offersOn_62 : decode cX9_offersOn 62 = .ok (.iconst 1, 1) := by decide +kernel
theorem dX9_offersOn_63 : decode cX9_offersOn 63 = .ok (.iadd, 1) := by decide +kernel
theorem dX9_offersOn_64 : decode cX9_offersOn 64 = .ok (.invokevirtual 101, 3) := by decide +kernel
theorem dX9_offersOn_67 : decode cX9_offersOn 67 = .ok (.l2i, 1) := by decide +kernel
theorem dX9_offersOn_68 : decode cX9_offersOn 68 = .ok (.invokevirtual 78, 3) := by decide +kernel
theorem dX9_offersOn_71 : decode cX9_offersOn 71 = .ok (.ifCond .ne 5, 3) := by decide +kernel
theorem dX9_offersOn_74 : decode cX9_offersOn 74 = .ok (.iload_n 3, 1) := by decide +kernel
theorem dX9_offersOn_75 : decode cX9_offersOn 75 = .ok (.ireturn, 1) := by decide +kernel
theorem dX9_offersOn_76 : decode cX9_offersOn 76 = .ok (.iinc 3 1, 3) := by decide +kernel
theorem dX9_offersOn_79 : decode cX9_offersOn 79 = .ok (.goto (-68), 3) := by decide +kernel
theorem dX9_offersOn_82 : decode cX9_offersOn 82 = .ok (.bipush 8, 2) := by decide +kernel
theorem dX9_offersOn_84 : decode cX9_offersOn 84 = .ok (.ireturn, 1) := by decide +kernel
theorem dX9_bestYear_0 : decode cX9_bestYear 0 = .ok (.iconst 1, 1) := by decide +kernel
theorem dX9_bestYear_1 : decode cX9_bestYear 1 = .ok (.aload_n 0, 1) := by decide +kernel
theorem dX9_bestYear_2 : decode cX9_bestYear 2 = .ok (.iload_n 1, 1) := by decide +kernel
theorem dX9_bestYear_3 : decode cX9_bestYear 3 = .ok (.invokevirtual 190, 3) := by decide +kernel
theorem dX9_bestYear_6 : decode cX9_bestYear 6 = .ok (.ishl, 1) := by decide +kernel
theorem dX9_bestYear_7 : decode cX9_bestYear 7 = .ok (.istore_n 3, 1) := by decide +kernel
theorem dX9_bestYear_8 : decode cX9_bestYear 8 = .ok (.iconst 0, 1) := by decide +kernel
theorem dX9_bestYear_9 : decode cX9_bestYear 9 = .ok (.istore 4, 2) := by decide +kernel
theorem dX9_bestYear_11 : decode cX9_bestYear 11 = .ok (.iconst 0, 1) := by decide +kernel
theorem dX9_bestYear_12 : decode cX9_bestYear 12 = .ok (.istore 5, 2) := by decide +kernel
theorem dX9_bestYear_14 : decode cX9_bestYear 14 = .ok (.iconst 1, 1) := by decide +kernel
theorem dX9_bestYear_15 : decode cX9_bestYear 15 = .ok (.istore 6, 2) := by decide +kernel
theorem dX9_bestYear_17 : decode cX9_bestYear 17 = .ok (.iload 6, 2) := by decide +kernel
theorem dX9_bestYear_19 : decode cX9_bestYear 19 = .ok (.iload_n 3, 1) := by decide +kernel
theorem dX9_bestYear_20 : decode cX9_bestYear 20 = .ok (.if_icmp .ge 46, 3) := by decide +kernel
theorem dX9_bestYear_23 : decode cX9_bestYear 23 = .ok (.aload_n 0, 1) := by decide +kernel
theorem dX9_bestYear_24 : decode cX9_bestYear 24 = .ok (.iload_n 1, 1) := by decide +kernel
theorem dX9_bestYear_25 : decode cX9_bestYear 25 = .ok (.iload 6, 2) := by decide +kernel
theorem dX9_bestYear_27 : decode cX9_bestYear 27 = .ok (.iconst 1, 1) := by decide +kernel
theorem dX9_bestYear_28 : decode cX9_bestYear 28 = .ok (.invokevirtual 187, 3) := by decide +kernel
theorem dX9_bestYear_31 : decode cX9_bestYear 31 = .ok (.istore 7, 2) := by decide +kernel
theorem dX9_bestYear_33 : decode cX9_bestYear 33 = .ok (.iload 7, 2) := by decide +kernel
theorem dX9_bestYear_35 : decode cX9_bestYear 35 = .ok (.iload 5, 2) := by decide +kernel
theorem dX9_bestYear_37 : decode cX9_bestYear 37 = .ok (.if_icmp .le 23, 3) := by decide +kernel
theorem dX9_bestYear_40 : decode cX9_bestYear 40 = .ok (.aload_n 0, 1) := by decide +kernel
theorem dX9_bestYear_41 : decode cX9_bestYear 41 = .ok (.iload_n 1, 1) := by decide +kernel
theorem dX9_bestYear_42 : decode cX9_bestYear 42 = .ok (.iload 6, 2) := by decide +kernel
theorem dX9_bestYear_44 : decode cX9_bestYear 44 = .ok (.iconst 0, 1) := by decide +kernel
theorem dX9_bestYear_45 : decode cX9_bestYear 45 = .ok (.invokevirtual 187, 3) := by decide +kernel
theorem dX9_bestYear_48 : decode cX9_bestYear 48 = .ok (.iload_n 2, 1) := by decide +kernel
theorem dX9_bestYear_49 : decode cX9_bestYear 49 = .ok (.if_icmp .gt 11, 3) := by decide +kernel
theorem dX9_bestYear_52 : decode cX9_bestYear 52 = .ok (.iload 7, 2) := by decide +kernel
theorem dX9_bestYear_54 : decode cX9_bestYear 54 = .ok (.istore 5, 2) := by decide +kernel
theorem dX9_bestYear_56 : decode cX9_bestYear 56 = .ok (.iload 6, 2) := by decide +kernel
theorem dX9_bestYear_58 : decode cX9_bestYear 58 = .ok (.istore 4, 2) := by decide +kernel
theorem dX9_bestYear_60 : decode cX9_bestYear 60 = .ok (.iinc 6 1, 3) := by decide +kernel
theorem dX9_bestYear_63 : decode cX9_bestYear 63 = .ok (.goto (-46), 3) := by decide +kernel
theorem dX9_bestYear_66 : decode cX9_bestYear 66 = .ok (.iload 4, 2) := by decide +kernel
theorem dX9_bestYear_68 : decode cX9_bestYear 68 = .ok (.ireturn, 1) := by decide +kernel
theorem dX9_sumOf_0 : decode cX9_sumOf 0 = .ok (.iconst 0, 1) := by decide +kernel
theorem dX9_sumOf_1 : decode cX9_sumOf 1 = .ok (.istore 4, 2) := by decide +kernel
theorem dX9_sumOf_3 : decode cX9_sumOf 3 = .ok (.iconst 0, 1) := by decide +kernel
theorem dX9_sumOf_4 : decode cX9_sumOf 4 = .ok (.istore 5, 2) := by decide +kernel
theorem dX9_sumOf_6 : decode cX9_sumOf 6 = .ok (.iload 5, 2) := by decide +kernel
theorem dX9_sumOf_8 : decode cX9_sumOf 8 = .ok (.bipush 8, 2) := by decide +kernel
theorem dX9_sumOf_10 : decode cX9_sumOf 10 = .ok (.if_icmp .ge 39, 3) := by decide +kernel
theorem dX9_sumOf_13 : decode cX9_sumOf 13 = .ok (.iload_n 2, 1) := by decide +kernel
theorem dX9_sumOf_14 : decode cX9_sumOf 14 = .ok (.iload 5, 2) := by decide +kernel
theorem dX9_sumOf_16 : decode cX9_sumOf 16 = .ok (.ishr, 1) := by decide +kernel
theorem dX9_sumOf_17 : decode cX9_sumOf 17 = .ok (.iconst 1, 1) := by decide +kernel
theorem dX9_sumOf_18 : decode cX9_sumOf 18 = .ok (.iand, 1) := by decide +kernel
theorem dX9_sumOf_19 : decode cX9_sumOf 19 = .ok (.iconst 1, 1) := by decide +kernel
theorem dX9_sumOf_20 : decode cX9_sumOf 20 = .ok (.if_icmp .ne 23, 3) := by decide +kernel
theorem dX9_sumOf_23 : decode cX9_sumOf 23 = .ok (.iload 4, 2) := by decide +kernel
theorem dX9_sumOf_25 : decode cX9_sumOf 25 = .ok (.aload_n 0, 1) := by decide +kernel
theorem dX9_sumOf_26 : decode cX9_sumOf 26 = .ok (.getfield 28, 3) := by decide +kernel
theorem dX9_sumOf_29 : decode cX9_sumOf 29 = .ok (.iload_n 1, 1) := by decide +kernel
theorem dX9_sumOf_30 : decode cX9_sumOf 30 = .ok (.iconst 2, 1) := by decide +kernel
theorem dX9_sumOf_31 : decode cX9_sumOf 31 = .ok (.iload 5, 2) := by decide +kernel
theorem dX9_sumOf_33 : decode cX9_sumOf 33 = .ok (.imul, 1) := by decide +kernel
theorem dX9_sumOf_34 : decode cX9_sumOf 34 = .ok (.iload_n 3, 1) := by decide +kernel
theorem dX9_sumOf_35 : decode cX9_sumOf 35 = .ok (.iadd, 1) := by decide +kernel
theorem dX9_sumOf_36 : decode cX9_sumOf 36 = .ok (.invokevirtual 101, 3) := by decide +kernel
theorem dX9_sumOf_39 : decode cX9_sumOf 39 = .ok (.l2i, 1) := by decide +kernel
theorem dX9_sumOf_40 : decode cX9_sumOf 40 = .ok (.iadd, 1) := by decide +kernel
theorem dX9_sumOf_41 : decode cX9_sumOf 41 = .ok (.istore 4, 2) := by decide +kernel
theorem dX9_sumOf_43 : decode cX9_sumOf 43 = .ok (.iinc 5 1, 3) := by decide +kernel
theorem dX9_sumOf_46 : decode cX9_sumOf 46 = .ok (.goto (-40), 3) := by decide +kernel
theorem dX9_sumOf_49 : decode cX9_sumOf 49 = .ok (.iload 4, 2) := by decide +kernel
theorem dX9_sumOf_51 : decode cX9_sumOf 51 = .ok (.ireturn, 1) := by decide +kernel
theorem dX9_came_0 : decode cX9_came 0 = .ok (.aload_n 0, 1) := by decide +kernel
theorem dX9_came_1 : decode cX9_came 1 = .ok (.iload_n 1, 1) := by decide +kernel
theorem dX9_came_2 : decode cX9_came 2 = .ok (.invokevirtual 132, 3) := by decide +kernel
theorem dX9_came_5 : decode cX9_came 5 = .ok (.ifCond .ne 15, 3) := by decide +kernel
theorem dX9_came_8 : decode cX9_came 8 = .ok (.aload_n 0, 1) := by decide +kernel
theorem dX9_came_9 : decode cX9_came 9 = .ok (.getfield 53, 3) := by decide +kernel
theorem dX9_came_12 : decode cX9_came 12 = .ok (.iconst 0, 1) := by decide +kernel
theorem dX9_came_13 : decode cX9_came 13 = .ok (.iconst 1, 1) := by decide +kernel
theorem dX9_came_14 : decode cX9_came 14 = .ok (.invokevirtual 193, 3) := by decide +kernel
theorem dX9_came_17 : decode cX9_came 17 = .ok (.goto 6, 3) := by decide +kernel
theorem dX9_came_20 : decode cX9_came 20 = .ok (.ldc2_w 199, 3) := by decide +kernel
theorem dX9_came_23 : decode cX9_came 23 = .ok (.lreturn, 1) := by decide +kernel
theorem dX9_cameAs_0 : decode cX9_cameAs 0 = .ok (.iload_n 2, 1) := by decide +kernel
theorem dX9_cameAs_1 : decode cX9_cameAs 1 = .ok (.ifCond .ge 7, 3) := by decide +kernel
theorem dX9_cameAs_4 : decode cX9_cameAs 4 = .ok (.iconst (-1), 1) := by decide +kernel
theorem dX9_cameAs_5 : decode cX9_cameAs 5 = .ok (.goto 8, 3) := by decide +kernel
theorem dX9_cameAs_8 : decode cX9_cameAs 8 = .ok (.aload_n 0, 1) := by decide +kernel
theorem dX9_cameAs_9 : decode cX9_cameAs 9 = .ok (.iload_n 1, 1) := by decide +kernel
theorem dX9_cameAs_10 : decode cX9_cameAs 10 = .ok (.invokevirtual 132, 3) := by decide +kernel
theorem dX9_cameAs_13 : decode cX9_cameAs 13 = .ok (.istore_n 3, 1) := by decide +kernel
theorem dX9_cameAs_14 : decode cX9_cameAs 14 = .ok (.iload_n 3, 1) := by decide +kernel
theorem dX9_cameAs_15 : decode cX9_cameAs 15 = .ok (.ifCond .eq 5, 3) := by decide +kernel
theorem dX9_cameAs_18 : decode cX9_cameAs 18 = .ok (.iload_n 3, 1) := by decide +kernel
theorem dX9_cameAs_19 : decode cX9_cameAs 19 = .ok (.ireturn, 1) := by decide +kernel
theorem dX9_cameAs_20 : decode cX9_cameAs 20 = .ok (.aload_n 0, 1) := by decide +kernel
theorem dX9_cameAs_21 : decode cX9_cameAs 21 = .ok (.getfield 53, 3) := by decide +kernel
theorem dX9_cameAs_24 : decode cX9_cameAs 24 = .ok (.iload_n 2, 1) := by decide +kernel
theorem dX9_cameAs_25 : decode cX9_cameAs 25 = .ok (.invokevirtual 201, 3) := by decide +kernel
theorem dX9_cameAs_28 : decode cX9_cameAs 28 = .ok (.ireturn, 1) := by decide +kernel
theorem dX9_meant_0 : decode cX9_meant 0 = .ok (.iload_n 2, 1) := by decide +kernel
theorem dX9_meant_1 : decode cX9_meant 1 = .ok (.iconst 0, 1) := by decide +kernel
theorem dX9_meant_2 : decode cX9_meant 2 = .ok (.iconst 5, 1) := by decide +kernel
theorem dX9_meant_3 : decode cX9_meant 3 = .ok (.invokestatic 86, 3) := by decide +kernel
theorem dX9_meant_6 : decode cX9_meant 6 = .ok (.ifCond .eq 20, 3) := by decide +kernel
theorem dX9_meant_9 : decode cX9_meant 9 = .ok (.iload_n 3, 1) := by decide +kernel
theorem dX9_meant_10 : decode cX9_meant 10 = .ok (.iconst 0, 1) := by decide +kernel
theorem dX9_meant_11 : decode cX9_meant 11 = .ok (.iconst 1, 1) := by decide +kernel
theorem dX9_meant_12 : decode cX9_meant 12 = .ok (.invokestatic 86, 3) := by decide +kernel
theorem dX9_meant_15 : decode cX9_meant 15 = .ok (.ifCond .eq 11, 3) := by decide +kernel
theorem dX9_meant_18 : decode cX9_meant 18 = .ok (.aload_n 0, 1) := by decide +kernel
theorem dX9_meant_19 : decode cX9_meant 19 = .ok (.iload_n 1, 1) := by decide +kernel
theorem dX9_meant_20 : decode cX9_meant 20 = .ok (.invokevirtual 132, 3) := by decide +kernel
theorem dX9_meant_23 : decode cX9_meant 23 = .ok (.ifCond .eq 7, 3) := by decide +kernel
theorem dX9_meant_26 : decode cX9_meant 26 = .ok (.ldc2_w 199, 3) := by decide +kernel
theorem dX9_meant_29 : decode cX9_meant 29 = .ok (.lreturn, 1) := by decide +kernel
theorem dX9_meant_30 : decode cX9_meant 30 = .ok (.aload_n 0, 1) := by decide +kernel
theorem dX9_meant_31 : decode cX9_meant 31 = .ok (.getfield 53, 3) := by decide +kernel
theorem dX9_meant_34 : decode cX9_meant 34 = .ok (.iconst 0, 1) := by decide +kernel
theorem dX9_meant_35 : decode cX9_meant 35 = .ok (.iconst 0, 1) := by decide +kernel
theorem dX9_meant_36 : decode cX9_meant 36 = .ok (.invokevirtual 193, 3) := by decide +kernel
theorem dX9_meant_39 : decode cX9_meant 39 = .ok (.lstore 4, 2) := by decide +kernel
theorem dX9_meant_41 : decode cX9_meant 41 = .ok (.lload 4, 2) := by decide +kernel
theorem dX9_meant_43 : decode cX9_meant 43 = .ok (.aload_n 0, 1) := by decide +kernel
theorem dX9_meant_44 : decode cX9_meant 44 = .ok (.getfield 53, 3) := by decide +kernel
theorem dX9_meant_47 : decode cX9_meant 47 = .ok (.iconst 1, 1) := by decide +kernel
theorem dX9_meant_48 : decode cX9_meant 48 = .ok (.iload_n 2, 1) := by decide +kernel
theorem dX9_meant_49 : decode cX9_meant 49 = .ok (.ishl, 1) := by decide +kernel
theorem dX9_meant_50 : decode cX9_meant 50 = .ok (.iconst 0, 1) := by decide +kernel
theorem dX9_meant_51 : decode cX9_meant 51 = .ok (.invokevirtual 193, 3) := by decide +kernel
theorem dX9_meant_54 : decode cX9_meant 54 = .ok (.lsub, 1) := by decide +kernel
theorem dX9_meant_55 : decode cX9_meant 55 = .ok (.lload 4, 2) := by decide +kernel
theorem dX9_meant_57 : decode cX9_meant 57 = .ok (.iload_n 3, 1) := by decide +kernel
theorem dX9_meant_58 : decode cX9_meant 58 = .ok (.invokestatic 204, 3) := by decide +kernel
theorem dX9_meant_61 : decode cX9_meant 61 = .ok (.lreturn, 1) := by decide +kernel
theorem dX9_certain_0 : decode cX9_certain 0 = .ok (.aload_n 0, 1) := by decide +kernel
theorem dX9_certain_1 : decode cX9_certain 1 = .ok (.iload_n 1, 1) := by decide +kernel
theorem dX9_certain_2 : decode cX9_certain 2 = .ok (.invokevirtual 132, 3) := by decide +kernel
theorem dX9_certain_5 : decode cX9_certain 5 = .ok (.istore_n 2, 1) := by decide +kernel
theorem dX9_certain_6 : decode cX9_certain 6 = .ok (.iload_n 2, 1) := by decide +kernel
theorem dX9_certain_7 : decode cX9_certain 7 = .ok (.ifCond .eq 7, 3) := by decide +kernel
theorem dX9_certain_10 : decode cX9_certain 10 = .ok (.iload_n 2, 1) := by decide +kernel
theorem dX9_certain_11 : decode cX9_certain 11 = .ok (.goto 10, 3) := by decide +kernel
theorem dX9_certain_14 : decode cX9_certain 14 = .ok (.aload_n 0, 1) := by decide +kernel
theorem dX9_certain_15 : decode cX9_certain 15 = .ok (.getfield 53, 3) := by decide +kernel
theorem dX9_certain_18 : decode cX9_certain 18 = .ok (.invokevirtual 208, 3) := by decide +kernel
theorem dX9_certain_21 : decode cX9_certain 21 = .ok (.ireturn, 1) := by decide +kernel
theorem dX9_safe_0 : decode cX9_safe 0 = .ok (.iload_n 2, 1) := by decide +kernel
theorem dX9_safe_1 : decode cX9_safe 1 = .ok (.iconst 0, 1) := by decide +kernel
theorem dX9_safe_2 : decode cX9_safe 2 = .ok (.iconst 1, 1) := by decide +kernel
theorem dX9_safe_3 : decode cX9_safe 3 = .ok (.invokestatic 86, 3) := by decide +kernel
theorem dX9_safe_6 : decode cX9_safe 6 = .ok (.ifCond .eq 11, 3) := by decide +kernel
theorem dX9_safe_9 : decode cX9_safe 9 = .ok (.aload_n 0, 1) := by decide +kernel
theorem dX9_safe_10 : decode cX9_safe 10 = .ok (.iload_n 1, 1) := by decide +kernel
theorem dX9_safe_11 : decode cX9_safe 11 = .ok (.invokevirtual 132, 3) := by decide +kernel
theorem dX9_safe_14 : decode cX9_safe 14 = .ok (.ifCond .eq 7, 3) := by decide +kernel
theorem dX9_safe_17 : decode cX9_safe 17 = .ok (.ldc2_w 199, 3) := by decide +kernel
theorem dX9_safe_20 : decode cX9_safe 20 = .ok (.lreturn, 1) := by decide +kernel
theorem dX9_safe_21 : decode cX9_safe 21 = .ok (.aload_n 0, 1) := by decide +kernel
theorem dX9_safe_22 : decode cX9_safe 22 = .ok (.getfield 53, 3) := by decide +kernel
theorem dX9_safe_25 : decode cX9_safe 25 = .ok (.invokevirtual 211, 3) := by decide +kernel
theorem dX9_safe_28 : decode cX9_safe 28 = .ok (.aload_n 0, 1) := by decide +kernel
theorem dX9_safe_29 : decode cX9_safe 29 = .ok (.getfield 53, 3) := by decide +kernel
theorem dX9_safe_32 : decode cX9_safe 32 = .ok (.invokevirtual 215, 3) := by decide +kernel
theorem dX9_safe_35 : decode cX9_safe 35 = .ok (.iload_n 2, 1) := by decide +kernel
theorem dX9_safe_36 : decode cX9_safe 36 = .ok (.invokestatic 204, 3) := by decide +kernel
theorem dX9_safe_39 : decode cX9_safe 39 = .ok (.lreturn, 1) := by decide +kernel
theorem dX9_unsigned_0 : decode cX9_unsigned 0 = .ok (.iload_n 2, 1) := by decide +kernel
theorem dX9_unsigned_1 : decode cX9_unsigned 1 = .ok (.iconst 0, 1) := by decide +kernel
theorem dX9_unsigned_2 : decode cX9_unsigned 2 = .ok (.iconst 1, 1) := by decide +kernel
theorem dX9_unsigned_3 : decode cX9_unsigned 3 = .ok (.invokestatic 86, 3) := by decide +kernel
theorem dX9_unsigned_6 : decode cX9_unsigned 6 = .ok (.ifCond .eq 11, 3) := by decide +kernel
theorem dX9_unsigned_9 : decode cX9_unsigned 9 = .ok (.aload_n 0, 1) := by decide +kernel
theorem dX9_unsigned_10 : decode cX9_unsigned 10 = .ok (.iload_n 1, 1) := by decide +kernel
theorem dX9_unsigned_11 : decode cX9_unsigned 11 = .ok (.invokevirtual 132, 3) := by decide +kernel
theorem dX9_unsigned_14 : decode cX9_unsigned 14 = .ok (.goto 4, 3) := by decide +kernel
theorem dX9_unsigned_17 : decode cX9_unsigned 17 = .ok (.iconst (-1), 1) := by decide +kernel
theorem dX9_unsigned_18 : decode cX9_unsigned 18 = .ok (.istore_n 3, 1) := by decide +kernel
theorem dX9_unsigned_19 : decode cX9_unsigned 19 = .ok (.iload_n 3, 1) := by decide +kernel
theorem dX9_unsigned_20 : decode cX9_unsigned 20 = .ok (.ifCond .eq 5, 3) := by decide +kernel
theorem dX9_unsigned_23 : decode cX9_unsigned 23 = .ok (.iload_n 3, 1) := by decide +kernel
theorem dX9_unsigned_24 : decode cX9_unsigned 24 = .ok (.ireturn, 1) := by decide +kernel
theorem dX9_unsigned_25 : decode cX9_unsigned 25 = .ok (.aload_n 0, 1) := by decide +kernel
theorem dX9_unsigned_26 : decode cX9_unsigned 26 = .ok (.getfield 37, 3) := by decide +kernel
theorem dX9_unsigned_29 : decode cX9_unsigned 29 = .ok (.invokevirtual 138, 3) := by decide +kernel
theorem dX9_unsigned_32 : decode cX9_unsigned 32 = .ok (.istore 4, 2) := by decide +kernel
theorem dX9_unsigned_34 : decode cX9_unsigned 34 = .ok (.aload_n 0, 1) := by decide +kernel
theorem dX9_unsigned_35 : decode cX9_unsigned 35 = .ok (.getfield 37, 3) := by decide +kernel
theorem dX9_unsigned_38 : decode cX9_unsigned 38 = .ok (.invokevirtual 135, 3) := by decide +kernel
theorem dX9_unsigned_41 : decode cX9_unsigned 41 = .ok (.istore 5, 2) := by decide +kernel
theorem dX9_unsigned_43 : decode cX9_unsigned 43 = .ok (.iconst 0, 1) := by decide +kernel
theorem dX9_unsigned_44 : decode cX9_unsigned 44 = .ok (.istore 6, 2) := by decide +kernel
theorem dX9_unsigned_46 : decode cX9_unsigned 46 = .ok (.bipush (-2), 2) := by decide +kernel
theorem dX9_unsigned_48 : decode cX9_unsigned 48 = .ok (.istore 7, 2) := by decide +kernel
theorem dX9_unsigned_50 : decode cX9_unsigned 50 = .ok (.iconst 0, 1) := by decide +kernel
theorem dX9_unsigned_51 : decode cX9_unsigned 51 = .ok (.istore 8, 2) := by decide +kernel
theorem dX9_unsigned_53 : decode cX9_unsigned 53 = .ok (.iload 8, 2) := by decide +kernel
theorem dX9_unsigned_55 : decode cX9_unsigned 55 = .ok (.aload_n 0, 1) := by decide +kernel
theorem dX9_unsigned_56 : decode cX9_unsigned 56 = .ok (.getfield 10, 3) := by decide +kernel
theorem dX9_unsigned_59 : decode cX9_unsigned 59 = .ok (.getfield 218, 3) := by decide +kernel
theorem dX9_unsigned_62 : decode cX9_unsigned 62 = .ok (.if_icmp .ge 63, 3) := by decide +kernel
theorem dX9_unsigned_65 : decode cX9_unsigned 65 = .ok (.aload_n 0, 1) := by decide +kernel
theorem dX9_unsigned_66 : decode cX9_unsigned 66 = .ok (.iload 8, 2) := by decide +kernel
theorem dX9_unsigned_68 : decode cX9_unsigned 68 = .ok (.iload 4, 2) := by decide +kernel
theorem dX9_unsigned_70 : decode cX9_unsigned 70 = .ok (.iload 5, 2) := by decide +kernel
theorem dX9_unsigned_72 : decode cX9_unsigned 72 = .ok (.invokevirtual 221, 3) := by decide +kernel
theorem dX9_unsigned_75 : decode cX9_unsigned 75 = .ok (.ifCond .eq 44, 3) := by decide +kernel
theorem dX9_unsigned_78 : decode cX9_unsigned 78 = .ok (.iload 6, 2) := by decide +kernel
theorem dX9_unsigned_80 : decode cX9_unsigned 80 = .ok (.iconst 1, 1) := by decide +kernel
theorem dX9_unsigned_81 : decode cX9_unsigned 81 = .ok (.iload 8, 2) := by decide +kernel
theorem dX9_unsigned_83 : decode cX9_unsigned 83 = .ok (.ishl, 1) := by decide +kernel
theorem dX9_unsigned_84 : decode cX9_unsigned 84 = .ok (.ior, 1) := by decide +kernel
theorem dX9_unsigned_85 : decode cX9_unsigned 85 = .ok (.istore 6, 2) := by decide +kernel
theorem dX9_unsigned_87 : decode cX9_unsigned 87 = .ok (.iload 7, 2) := by decide +kernel
theorem dX9_unsigned_89 : decode cX9_unsigned 89 = .ok (.ifCond .lt 26, 3) := by decide +kernel
theorem dX9_unsigned_92 : decode cX9_unsigned 92 = .ok (.aload_n 0, 1) := by decide +kernel
theorem dX9_unsigned_93 : decode cX9_unsigned 93 = .ok (.getfield 10, 3) := by decide +kernel
theorem dX9_unsigned_96 : decode cX9_unsigned 96 = .ok (.iload 8, 2) := by decide +kernel
theorem dX9_unsigned_98 : decode cX9_unsigned 98 = .ok (.iconst 5, 1) := by decide +kernel
theorem dX9_unsigned_99 : decode cX9_unsigned 99 = .ok (.invokevirtual 111, 3) := by decide +kernel
theorem dX9_unsigned_102 : decode cX9_unsigned 102 = .ok (.aload_n 0, 1) := by decide +kernel
theorem dX9_unsigned_103 : decode cX9_unsigned 103 = .ok (.getfield 10, 3) := by decide +kernel
theorem dX9_unsigned_106 : decode cX9_unsigned 106 = .ok (.iload 7, 2) := by decide +kernel
theorem dX9_unsigned_108 : decode cX9_unsigned 108 = .ok (.iconst 5, 1) := by decide +kernel
theorem dX9_unsigned_109 : decode cX9_unsigned 109 = .ok (.invokevirtual 111, 3) := by decide +kernel
theorem dX9_unsigned_112 : decode cX9_unsigned 112 = .ok (.if_icmp .le 7, 3) := by decide +kernel
theorem dX9_unsigned_115 : decode cX9_unsigned 115 = .ok (.iload 8, 2) := by decide +kernel
theorem dX9_unsigned_117 : decode cX9_unsigned 117 = .ok (.istore 7, 2) := by decide +kernel
theorem dX9_unsigned_119 : decode cX9_unsigned 119 = .ok (.iinc 8 1, 3) := by decide +kernel
theorem dX9_unsigned_122 : decode cX9_unsigned 122 = .ok (.goto (-69), 3) := by decide +kernel
theorem dX9_unsigned_125 : decode cX9_unsigned 125 = .ok (.iload_n 2, 1) := by decide +kernel
theorem dX9_unsigned_126 : decode cX9_unsigned 126 = .ok (.ifCond .ne 8, 3) := by decide +kernel
theorem dX9_unsigned_129 : decode cX9_unsigned 129 = .ok (.iload 6, 2) := by decide +kernel
theorem dX9_unsigned_131 : decode cX9_unsigned 131 = .ok (.goto 5, 3) := by decide +kernel
theorem dX9_unsigned_134 : decode cX9_unsigned 134 = .ok (.iload 7, 2) := by decide +kernel
theorem dX9_unsigned_136 : decode cX9_unsigned 136 = .ok (.ireturn, 1) := by decide +kernel
theorem dX9_maySend_0 : decode cX9_maySend 0 = .ok (.iload_n 2, 1) := by decide +kernel
theorem dX9_maySend_1 : decode cX9_maySend 1 = .ok (.aload_n 0, 1) := by decide +kernel
theorem dX9_maySend_2 : decode cX9_maySend 2 = .ok (.getfield 10, 3) := by decide +kernel
theorem dX9_maySend_5 : decode cX9_maySend 5 = .ok (.iload_n 1, 1) := by decide +kernel
theorem dX9_maySend_6 : decode cX9_maySend 6 = .ok (.bipush 6, 2) := by decide +kernel
theorem dX9_maySend_8 : decode cX9_maySend 8 = .ok (.invokevirtual 111, 3) := by decide +kernel
theorem dX9_maySend_11 : decode cX9_maySend 11 = .ok (.iconst (-1), 1) := by decide +kernel
theorem dX9_maySend_12 : decode cX9_maySend 12 = .ok (.ixor, 1) := by decide +kernel
theorem dX9_maySend_13 : decode cX9_maySend 13 = .ok (.iand, 1) := by decide +kernel
theorem dX9_maySend_14 : decode cX9_maySend 14 = .ok (.ifCond .ne 20, 3) := by decide +kernel
theorem dX9_maySend_17 : decode cX9_maySend 17 = .ok (.iload_n 3, 1) := by decide +kernel
theorem dX9_maySend_18 : decode cX9_maySend 18 = .ok (.aload_n 0, 1) := by decide +kernel
theorem dX9_maySend_19 : decode cX9_maySend 19 = .ok (.getfield 10, 3) := by decide +kernel
theorem dX9_maySend_22 : decode cX9_maySend 22 = .ok (.iload_n 1, 1) := by decide +kernel
theorem dX9_maySend_23 : decode cX9_maySend 23 = .ok (.iconst 5, 1) := by decide +kernel
theorem dX9_maySend_24 : decode cX9_maySend 24 = .ok (.invokevirtual 111, 3) := by decide +kernel
theorem dX9_maySend_27 : decode cX9_maySend 27 = .ok (.if_icmp .gt 7, 3) := by decide +kernel
theorem dX9_maySend_30 : decode cX9_maySend 30 = .ok (.iconst 1, 1) := by decide +kernel
theorem dX9_maySend_31 : decode cX9_maySend 31 = .ok (.goto 4, 3) := by decide +kernel
theorem dX9_maySend_34 : decode cX9_maySend 34 = .ok (.iconst 0, 1) := by decide +kernel
theorem dX9_maySend_35 : decode cX9_maySend 35 = .ok (.ireturn, 1) := by decide +kernel
theorem dX9_club_0 : decode cX9_club 0 = .ok (.iload_n 1, 1) := by decide +kernel
theorem dX9_club_1 : decode cX9_club 1 = .ok (.iconst 0, 1) := by decide +kernel
theorem dX9_club_2 : decode cX9_club 2 = .ok (.iconst 1, 1) := by decide +kernel
theorem dX9_club_3 : decode cX9_club 3 = .ok (.aload_n 0, 1) := by decide +kernel
theorem dX9_club_4 : decode cX9_club 4 = .ok (.getfield 10, 3) := by decide +kernel
theorem dX9_club_7 : decode cX9_club 7 = .ok (.getfield 218, 3) := by decide +kernel
theorem dX9_club_10 : decode cX9_club 10 = .ok (.ishl, 1) := by decide +kernel
theorem dX9_club_11 : decode cX9_club 11 = .ok (.iconst 1, 1) := by decide +kernel
theorem dX9_club_12 : decode cX9_club 12 = .ok (.isub, 1) := by decide +kernel
theorem dX9_club_13 : decode cX9_club 13 = .ok (.invokestatic 86, 3) := by decide +kernel
theorem dX9_club_16 : decode cX9_club 16 = .ok (.ifCond .eq 26, 3) := by decide +kernel
theorem dX9_club_19 : decode cX9_club 19 = .ok (.iload_n 2, 1) := by decide +kernel
theorem dX9_club_20 : decode cX9_club 20 = .ok (.iconst 0, 1) := by decide +kernel
theorem dX9_club_21 : decode cX9_club 21 = .ok (.sipush 999, 3) := by decide +kernel
theorem dX9_club_24 : decode cX9_club 24 = .ok (.invokestatic 86, 3) := by decide +kernel
theorem dX9_club_27 : decode cX9_club 27 = .ok (.ifCond .eq 15, 3) := by decide +kernel
theorem dX9_club_30 : decode cX9_club 30 = .ok (.aload_n 0, 1) := by decide +kernel
theorem dX9_club_31 : decode cX9_club 31 = .ok (.getfield 10, 3) := by decide +kernel
theorem dX9_club_34 : decode cX9_club 34 = .ok (.iload_n 3, 1) := by decide +kernel
theorem dX9_club_35 : decode cX9_club 35 = .ok (.iconst 5, 1) := by decide +kernel
theorem dX9_club_36 : decode cX9_club 36 = .ok (.invokevirtual 108, 3) := by decide +kernel
theorem dX9_club_39 : decode cX9_club 39 = .ok (.ifCond .ne 5, 3) := by decide +kernel
theorem dX9_club_42 : decode cX9_club 42 = .ok (.iconst (-1), 1) := by decide +kernel
theorem dX9_club_43 : decode cX9_club 43 = .ok (.ireturn, 1) := by decide +kernel
theorem dX9_club_44 : decode cX9_club 44 = .ok (.iconst 0, 1) := by decide +kernel
theorem dX9_club_45 : decode cX9_club 45 = .ok (.istore 4, 2) := by decide +kernel
theorem dX9_club_47 : decode cX9_club 47 = .ok (.iconst 0, 1) := by decide +kernel
theorem dX9_club_48 : decode cX9_club 48 = .ok (.istore 5, 2) := by decide +kernel
theorem dX9_club_50 : decode cX9_club 50 = .ok (.iload 5, 2) := by decide +kernel
theorem dX9_club_52 : decode cX9_club 52 = .ok (.aload_n 0, 1) := by decide +kernel
theorem dX9_club_53 : decode cX9_club 53 = .ok (.getfield 10, 3) := by decide +kernel
theorem dX9_club_56 : decode cX9_club 56 = .ok (.getfield 218, 3) := by decide +kernel
theorem dX9_club_59 : decode cX9_club 59 = .ok (.if_icmp .ge 37, 3) := by decide +kernel
theorem dX9_club_62 : decode cX9_club 62 = .ok (.iload 4, 2) := by decide +kernel
theorem dX9_club_64 : decode cX9_club 64 = .ok (.iload_n 1, 1) := by decide +kernel
theorem dX9_club_65 : decode cX9_club 65 = .ok (.iload 5, 2) := by decide +kernel
theorem dX9_club_67 : decode cX9_club 67 = .ok (.invokestatic 224, 3) := by decide +kernel
theorem dX9_club_70 : decode cX9_club 70 = .ok (.ifCond .eq 16, 3) := by decide +kernel
theorem dX9_club_73 : decode cX9_club 73 = .ok (.aload_n 0, 1) := by decide +kernel
theorem dX9_club_74 : decode cX9_club 74 = .ok (.getfield 10, 3) := by decide +kernel
theorem dX9_club_77 : decode cX9_club 77 = .ok (.iload 5, 2) := by decide +kernel
theorem dX9_club_79 : decode cX9_club 79 = .ok (.iconst 5, 1) := by decide +kernel
theorem dX9_club_80 : decode cX9_club 80 = .ok (.invokevirtual 111, 3) := by decide +kernel
theorem dX9_club_83 : decode cX9_club 83 = .ok (.goto 4, 3) := by decide +kernel
theorem dX9_club_86 : decode cX9_club 86 = .ok (.iconst 0, 1) := by decide +kernel
theorem dX9_club_87 : decode cX9_club 87 = .ok (.iadd, 1) := by decide +kernel
theorem dX9_club_88 : decode cX9_club 88 = .ok (.istore 4, 2) := by decide +kernel
theorem dX9_club_90 : decode cX9_club 90 = .ok (.iinc 5 1, 3) := by decide +kernel
theorem dX9_club_93 : decode cX9_club 93 = .ok (.goto (-43), 3) := by decide +kernel
theorem dX9_club_96 : decode cX9_club 96 = .ok (.iload_n 1, 1) := by decide +kernel
theorem dX9_club_97 : decode cX9_club 97 = .ok (.iload_n 3, 1) := by decide +kernel
theorem dX9_club_98 : decode cX9_club 98 = .ok (.invokestatic 224, 3) := by decide +kernel
theorem dX9_club_101 : decode cX9_club 101 = .ok (.ifCond .eq 9, 3) := by decide +kernel
theorem dX9_club_104 : decode cX9_club 104 = .ok (.iload 4, 2) := by decide +kernel
theorem dX9_club_106 : decode cX9_club 106 = .ok (.iload_n 2, 1) := by decide +kernel
theorem dX9_club_107 : decode cX9_club 107 = .ok (.if_icmp .ge 6, 3) := by decide +kernel
theorem dX9_club_110 : decode cX9_club 110 = .ok (.bipush (-2), 2) := by decide +kernel
theorem dX9_club_112 : decode cX9_club 112 = .ok (.ireturn, 1) := by decide +kernel
theorem dX9_club_113 : decode cX9_club 113 = .ok (.iload_n 2, 1) := by decide +kernel
theorem dX9_club_114 : decode cX9_club 114 = .ok (.istore 5, 2) := by decide +kernel
theorem dX9_club_116 : decode cX9_club 116 = .ok (.iconst 0, 1) := by decide +kernel
theorem dX9_club_117 : decode cX9_club 117 = .ok (.istore 6, 2) := by decide +kernel
theorem dX9_club_119 : decode cX9_club 119 = .ok (.iconst 0, 1) := by decide +kernel
theorem dX9_club_120 : decode cX9_club 120 = .ok (.istore 7, 2) := by decide +kernel
theorem dX9_club_122 : decode cX9_club 122 = .ok (.iload 7, 2) := by decide +kernel
theorem dX9_club_124 : decode cX9_club 124 = .ok (.aload_n 0, 1) := by decide +kernel
theorem dX9_club_125 : decode cX9_club 125 = .ok (.getfield 10, 3) := by decide +kernel
theorem dX9_club_128 : decode cX9_club 128 = .ok (.getfield 218, 3) := by decide +kernel
theorem dX9_club_131 : decode cX9_club 131 = .ok (.if_icmp .ge 61, 3) := by decide +kernel
theorem dX9_club_134 : decode cX9_club 134 = .ok (.iload 5, 2) := by decide +kernel
theorem dX9_club_136 : decode cX9_club 136 = .ok (.iload_n 1, 1) := by decide +kernel
theorem dX9_club_137 : decode cX9_club 137 = .ok (.iload 7, 2) := by decide +kernel
theorem dX9_club_139 : decode cX9_club 139 = .ok (.invokestatic 224, 3) := by decide +kernel
theorem dX9_club_142 : decode cX9_club 142 = .ok (.ifCond .eq 15, 3) := by decide +kernel
theorem dX9_club_145 : decode cX9_club 145 = .ok (.aload_n 0, 1) := by decide +kernel
theorem dX9_club_146 : decode cX9_club 146 = .ok (.iload 7, 2) := by decide +kernel
theorem dX9_club_148 : decode cX9_club 148 = .ok (.iload_n 2, 1) := by decide +kernel
theorem dX9_club_149 : decode cX9_club 149 = .ok (.iload 4, 2) := by decide +kernel
theorem dX9_club_151 : decode cX9_club 151 = .ok (.invokevirtual 227, 3) := by decide +kernel
theorem dX9_club_154 : decode cX9_club 154 = .ok (.goto 4, 3) := by decide +kernel
theorem dX9_club_157 : decode cX9_club 157 = .ok (.iconst 0, 1) := by decide +kernel
theorem dX9_club_158 : decode cX9_club 158 = .ok (.isub, 1) := by decide +kernel
theorem dX9_club_159 : decode cX9_club 159 = .ok (.istore 5, 2) := by decide +kernel
theorem dX9_club_161 : decode cX9_club 161 = .ok (.iload 6, 2) := by decide +kernel
theorem dX9_club_163 : decode cX9_club 163 = .ok (.iload 7, 2) := by decide +kernel
theorem dX9_club_165 : decode cX9_club 165 = .ok (.iload_n 3, 1) := by decide +kernel
theorem dX9_club_166 : decode cX9_club 166 = .ok (.if_icmp .ge 16, 3) := by decide +kernel
theorem dX9_club_169 : decode cX9_club 169 = .ok (.iload_n 1, 1) := by decide +kernel
theorem dX9_club_170 : decode cX9_club 170 = .ok (.iload 7, 2) := by decide +kernel
theorem dX9_club_172 : decode cX9_club 172 = .ok (.invokestatic 224, 3) := by decide +kernel
theorem dX9_club_175 : decode cX9_club 175 = .ok (.ifCond .eq 7, 3) := by decide +kernel
theorem dX9_club_178 : decode cX9_club 178 = .ok (.iconst 1, 1) := by decide +kernel
theorem dX9_club_179 : decode cX9_club 179 = .ok (.goto 4, 3) := by decide +kernel
theorem dX9_club_182 : decode cX9_club 182 = .ok (.iconst 0, 1) := by decide +kernel
theorem dX9_club_183 : decode cX9_club 183 = .ok (.iadd, 1) := by decide +kernel
theorem dX9_club_184 : decode cX9_club 184 = .ok (.istore 6, 2) := by decide +kernel
theorem dX9_club_186 : decode cX9_club 186 = .ok (.iinc 7 1, 3) := by decide +kernel
theorem dX9_club_189 : decode cX9_club 189 = .ok (.goto (-67), 3) := by decide +kernel
theorem dX9_club_192 : decode cX9_club 192 = .ok (.aload_n 0, 1) := by decide +kernel
theorem dX9_club_193 : decode cX9_club 193 = .ok (.iload_n 3, 1) := by decide +kernel
theorem dX9_club_194 : decode cX9_club 194 = .ok (.iload_n 2, 1) := by decide +kernel
theorem dX9_club_195 : decode cX9_club 195 = .ok (.iload 4, 2) := by decide +kernel
theorem dX9_club_197 : decode cX9_club 197 = .ok (.invokevirtual 227, 3) := by decide +kernel
theorem dX9_club_200 : decode cX9_club 200 = .ok (.iload 6, 2) := by decide +kernel
theorem dX9_club_202 : decode cX9_club 202 = .ok (.iload 5, 2) := by decide +kernel
theorem dX9_club_204 : decode cX9_club 204 = .ok (.if_icmp .ge 7, 3) := by decide +kernel
theorem dX9_club_207 : decode cX9_club 207 = .ok (.iconst 1, 1) := by decide +kernel
theorem dX9_club_208 : decode cX9_club 208 = .ok (.goto 4, 3) := by decide +kernel
theorem dX9_club_211 : decode cX9_club 211 = .ok (.iconst 0, 1) := by decide +kernel
theorem dX9_club_212 : decode cX9_club 212 = .ok (.iadd, 1) := by decide +kernel
theorem dX9_club_213 : decode cX9_club 213 = .ok (.ireturn, 1) := by decide +kernel
theorem dX9_isIn_0 : decode cX9_isIn 0 = .ok (.iload_n 0, 1) := by decide +kernel
theorem dX9_isIn_1 : decode cX9_isIn 1 = .ok (.iload_n 1, 1) := by decide +kernel
theorem dX9_isIn_2 : decode cX9_isIn 2 = .ok (.ishr, 1) := by decide +kernel
theorem dX9_isIn_3 : decode cX9_isIn 3 = .ok (.iconst 1, 1) := by decide +kernel
theorem dX9_isIn_4 : decode cX9_isIn 4 = .ok (.iand, 1) := by decide +kernel
theorem dX9_isIn_5 : decode cX9_isIn 5 = .ok (.iconst 1, 1) := by decide +kernel
theorem dX9_isIn_6 : decode cX9_isIn 6 = .ok (.if_icmp .ne 7, 3) := by decide +kernel
theorem dX9_isIn_9 : decode cX9_isIn 9 = .ok (.iconst 1, 1) := by decide +kernel
theorem dX9_isIn_10 : decode cX9_isIn 10 = .ok (.goto 4, 3) := by decide +kernel
theorem dX9_isIn_13 : decode cX9_isIn 13 = .ok (.iconst 0, 1) := by decide +kernel
theorem dX9_isIn_14 : decode cX9_isIn 14 = .ok (.ireturn, 1) := by decide +kernel
theorem dX9_shareOf_0 : decode cX9_shareOf 0 = .ok (.iload_n 3, 1) := by decide +kernel
theorem dX9_shareOf_1 : decode cX9_shareOf 1 = .ok (.ifCond .le 19, 3) := by decide +kernel
theorem dX9_shareOf_4 : decode cX9_shareOf 4 = .ok (.iload_n 2, 1) := by decide +kernel
theorem dX9_shareOf_5 : decode cX9_shareOf 5 = .ok (.aload_n 0, 1) := by decide +kernel
theorem dX9_shareOf_6 : decode cX9_shareOf 6 = .ok (.getfield 10, 3) := by decide +kernel
theorem dX9_shareOf_9 : decode cX9_shareOf 9 = .ok (.iload_n 1, 1) := by decide +kernel
theorem dX9_shareOf_10 : decode cX9_shareOf 10 = .ok (.iconst 5, 1) := by decide +kernel
theorem dX9_shareOf_11 : decode cX9_shareOf 11 = .ok (.invokevirtual 111, 3) := by decide +kernel
theorem dX9_shareOf_14 : decode cX9_shareOf 14 = .ok (.imul, 1) := by decide +kernel
theorem dX9_shareOf_15 : decode cX9_shareOf 15 = .ok (.iload_n 3, 1) := by decide +kernel
theorem dX9_shareOf_16 : decode cX9_shareOf 16 = .ok (.idiv, 1) := by decide +kernel
theorem dX9_shareOf_17 : decode cX9_shareOf 17 = .ok (.goto 4, 3) := by decide +kernel
theorem dX9_shareOf_20 : decode cX9_shareOf 20 = .ok (.iconst 0, 1) := by decide +kernel
theorem dX9_shareOf_21 : decode cX9_shareOf 21 = .ok (.ireturn, 1) := by decide +kernel
theorem dX9_lacks_0 : decode cX9_lacks 0 = .ok (.iload_n 1, 1) := by decide +kernel
theorem dX9_lacks_1 : decode cX9_lacks 1 = .ok (.iconst 0, 1) := by decide +kernel
theorem dX9_lacks_2 : decode cX9_lacks 2 = .ok (.iconst 1, 1) := by decide +kernel
theorem dX9_lacks_3 : decode cX9_lacks 3 = .ok (.invokestatic 86, 3) := by decide +kernel
theorem dX9_lacks_6 : decode cX9_lacks 6 = .ok (.ifCond .ne 5, 3) := by decide +kernel
theorem dX9_lacks_9 : decode cX9_lacks 9 = .ok (.iconst (-1), 1) := by decide +kernel
theorem dX9_lacks_10 : decode cX9_lacks 10 = .ok (.ireturn, 1) := by decide +kernel
theorem dX9_lacks_11 : decode cX9_lacks 11 = .ok (.iload_n 1, 1) := by decide +kernel
theorem dX9_lacks_12 : decode cX9_lacks 12 = .ok (.ifCond .ne 10, 3) := by decide +kernel
theorem dX9_lacks_15 : decode cX9_lacks 15 = .ok (.aload_n 0, 1) := by decide +kernel
theorem dX9_lacks_16 : decode cX9_lacks 16 = .ok (.invokevirtual 230, 3) := by decide +kernel
theorem dX9_lacks_19 : decode cX9_lacks 19 = .ok (.goto 7, 3) := by decide +kernel
theorem dX9_lacks_22 : decode cX9_lacks 22 = .ok (.aload_n 0, 1) := by decide +kernel
theorem dX9_lacks_23 : decode cX9_lacks 23 = .ok (.invokevirtual 233, 3) := by decide +kernel
theorem dX9_lacks_26 : decode cX9_lacks 26 = .ok (.ireturn, 1) := by decide +kernel
theorem dX9_wordless_0 : decode cX9_wordless 0 = .ok (.iconst 0, 1) := by decide +kernel
theorem dX9_wordless_1 : decode cX9_wordless 1 = .ok (.istore_n 1, 1) := by decide +kernel
theorem dX9_wordless_2 : decode cX9_wordless 2 = .ok (.iconst 0, 1) := by decide +kernel
theorem dX9_wordless_3 : decode cX9_wordless 3 = .ok (.istore_n 2, 1) := by decide +kernel
theorem dX9_wordless_4 : decode cX9_wordless 4 = .ok (.iload_n 2, 1) := by decide +kernel
theorem dX9_wordless_5 : decode cX9_wordless 5 = .ok (.aload_n 0, 1) := by decide +kernel
theorem dX9_wordless_6 : decode cX9_wordless 6 = .ok (.getfield 10, 3) := by decide +kernel
theorem dX9_wordless_9 : decode cX9_wordless 9 = .ok (.getfield 236, 3) := by decide +kernel
theorem dX9_wordless_12 : decode cX9_wordless 12 = .ok (.if_icmp .ge 21, 3) := by decide +kernel
theorem dX9_wordless_15 : decode cX9_wordless 15 = .ok (.iload_n 1, 1) := by decide +kernel
theorem dX9_wordless_16 : decode cX9_wordless 16 = .ok (.aload_n 0, 1) := by decide +kernel
theorem dX9_wordless_17 : decode cX9_wordless 17 = .ok (.getfield 10, 3) := by decide +kernel
theorem dX9_wordless_20 : decode cX9_wordless 20 = .ok (.iload_n 2, 1) := by decide +kernel
theorem dX9_wordless_21 : decode cX9_wordless 21 = .ok (.iconst 1, 1) := by decide +kernel
theorem dX9_wordless_22 : decode cX9_wordless 22 = .ok (.invokevirtual 111, 3) := by decide +kernel
theorem dX9_wordless_25 : decode cX9_wordless 25 = .ok (.ior, 1) := by decide +kernel
theorem dX9_wordless_26 : decode cX9_wordless 26 = .ok (.istore_n 1, 1) := by decide +kernel
theorem dX9_wordless_27 : decode cX9_wordless 27 = .ok (.iinc 2 1, 3) := by decide +kernel
theorem dX9_wordless_30 : decode cX9_wordless 30 = .ok (.goto (-26), 3) := by decide +kernel
theorem dX9_wordless_33 : decode cX9_wordless 33 = .ok (.iload_n 1, 1) := by decide +kernel
theorem dX9_wordless_34 : decode cX9_wordless 34 = .ok (.iconst (-1), 1) := by decide +kernel
theorem dX9_wordless_35 : decode cX9_wordless 35 = .ok (.ixor, 1) := by decide +kernel
theorem dX9_wordless_36 : decode cX9_wordless 36 = .ok (.bipush 63, 2) := by decide +kernel
theorem dX9_wordless_38 : decode cX9_wordless 38 = .ok (.iand, 1) := by decide +kernel
theorem dX9_wordless_39 : decode cX9_wordless 39 = .ok (.ireturn, 1) := by decide +kernel
theorem dX9_dearest_0 : decode cX9_dearest 0 = .ok (.bipush (-2), 2) := by decide +kernel
theorem dX9_dearest_2 : decode cX9_dearest 2 = .ok (.istore_n 1, 1) := by decide +kernel
theorem dX9_dearest_3 : decode cX9_dearest 3 = .ok (.iconst 0, 1) := by decide +kernel
theorem dX9_dearest_4 : decode cX9_dearest 4 = .ok (.istore_n 2, 1) := by decide +kernel
theorem dX9_dearest_5 : decode cX9_dearest 5 = .ok (.iconst 1, 1) := by decide +kernel
theorem dX9_dearest_6 : decode cX9_dearest 6 = .ok (.istore_n 3, 1) := by decide +kernel
theorem dX9_dearest_7 : decode cX9_dearest 7 = .ok (.iconst 0, 1) := by decide +kernel
theorem dX9_dearest_8 : decode cX9_dearest 8 = .ok (.istore 4, 2) := by decide +kernel
theorem dX9_dearest_10 : decode cX9_dearest 10 = .ok (.iload 4, 2) := by decide +kernel
theorem dX9_dearest_12 : decode cX9_dearest 12 = .ok (.aload_n 0, 1) := by decide +kernel
theorem dX9_dearest_13 : decode cX9_dearest 13 = .ok (.getfield 10, 3) := by decide +kernel
theorem dX9_dearest_16 : decode cX9_dearest 16 = .ok (.getfield 236, 3) := by decide +kernel
theorem dX9_dearest_19 : decode cX9_dearest 19 = .ok (.if_icmp .ge 61, 3) := by decide +kernel
theorem dX9_dearest_22 : decode cX9_dearest 22 = .ok (.aload_n 0, 1) := by decide +kernel
theorem dX9_dearest_23 : decode cX9_dearest 23 = .ok (.getfield 10, 3) := by decide +kernel
theorem dX9_dearest_26 : decode cX9_dearest 26 = .ok (.iload 4, 2) := by decide +kernel
theorem dX9_dearest_28 : decode cX9_dearest 28 = .ok (.iconst 0, 1) := by decide +kernel
theorem dX9_dearest_29 : decode cX9_dearest 29 = .ok (.invokevirtual 111, 3) := by decide +kernel
theorem dX9_dearest_32 : decode cX9_dearest 32 = .ok (.istore 5, 2) := by decide +kernel
theorem dX9_dearest_34 : decode cX9_dearest 34 = .ok (.aload_n 0, 1) := by decide +kernel
theorem dX9_dearest_35 : decode cX9_dearest 35 = .ok (.getfield 10, 3) := by decide +kernel
theorem dX9_dearest_38 : decode cX9_dearest 38 = .ok (.iload 4, 2) := by decide +kernel
theorem dX9_dearest_40 : decode cX9_dearest 40 = .ok (.iconst 1, 1) := by decide +kernel
theorem dX9_dearest_41 : decode cX9_dearest 41 = .ok (.invokevirtual 111, 3) := by decide +kernel
theorem dX9_dearest_44 : decode cX9_dearest 44 = .ok (.invokestatic 176, 3) := by decide +kernel
theorem dX9_dearest_47 : decode cX9_dearest 47 = .ok (.istore 6, 2) := by decide +kernel
theorem dX9_dearest_49 : decode cX9_dearest 49 = .ok (.iload 6, 2) := by decide +kernel
theorem dX9_dearest_51 : decode cX9_dearest 51 = .ok (.ifCond .le 23, 3) := by decide +kernel
theorem dX9_dearest_54 : decode cX9_dearest 54 = .ok (.iload 5, 2) := by decide +kernel
theorem dX9_dearest_56 : decode cX9_dearest 56 = .ok (.iload_n 3, 1) := by decide +kernel
theorem dX9_dearest_57 : decode cX9_dearest 57 = .ok (.imul, 1) := by decide +kernel
theorem dX9_dearest_58 : decode cX9_dearest 58 = .ok (.iload_n 2, 1) := by decide +kernel
theorem dX9_dearest_59 : decode cX9_dearest 59 = .ok (.iload 6, 2) := by decide +kernel
theorem dX9_dearest_61 : decode cX9_dearest 61 = .ok (.imul, 1) := by decide +kernel
theorem dX9_dearest_62 : decode cX9_dearest 62 = .ok (.if_icmp .le 12, 3) := by decide +kernel
theorem dX9_dearest_65 : decode cX9_dearest 65 = .ok (.iload 4, 2) := by decide +kernel
theorem dX9_dearest_67 : decode cX9_dearest 67 = .ok (.istore_n 1, 1) := by decide +kernel
theorem dX9_dearest_68 : decode cX9_dearest 68 = .ok (.iload 5, 2) := by decide +kernel
theorem dX9_dearest_70 : decode cX9_dearest 70 = .ok (.istore_n 2, 1) := by decide +kernel
theorem dX9_dearest_71 : decode cX9_dearest 71 = .ok (.iload 6, 2) := by decide +kernel
theorem dX9_dearest_73 : decode cX9_dearest 73 = .ok (.istore_n 3, 1) := by decide +kernel
theorem dX9_dearest_74 : decode cX9_dearest 74 = .ok (.iinc 4 1, 3) := by decide +kernel
theorem dX9_dearest_77 : decode cX9_dearest 77 = .ok (.goto (-67), 3) := by decide +kernel
theorem dX9_dearest_80 : decode cX9_dearest 80 = .ok (.iload_n 1, 1) := by decide +kernel
theorem dX9_dearest_81 : decode cX9_dearest 81 = .ok (.ireturn, 1) := by decide +kernel
theorem dX9_drawn_0 : decode cX9_drawn 0 = .ok (.iload_n 2, 1) := by decide +kernel
theorem dX9_drawn_1 : decode cX9_drawn 1 = .ok (.bipush 100, 2) := by decide +kernel
theorem dX9_drawn_3 : decode cX9_drawn 3 = .ok (.idiv, 1) := by decide +kernel
theorem dX9_drawn_4 : decode cX9_drawn 4 = .ok (.istore 4, 2) := by decide +kernel
theorem dX9_drawn_6 : decode cX9_drawn 6 = .ok (.iload_n 2, 1) := by decide +kernel
theorem dX9_drawn_7 : decode cX9_drawn 7 = .ok (.bipush 100, 2) := by decide +kernel
theorem dX9_drawn_9 : decode cX9_drawn 9 = .ok (.irem, 1) := by decide +kernel
theorem dX9_drawn_10 : decode cX9_drawn 10 = .ok (.istore 5, 2) := by decide +kernel
theorem dX9_drawn_12 : decode cX9_drawn 12 = .ok (.iload 4, 2) := by decide +kernel
theorem dX9_drawn_14 : decode cX9_drawn 14 = .ok (.iconst 1, 1) := by decide +kernel
theorem dX9_drawn_15 : decode cX9_drawn 15 = .ok (.bipush 30, 2) := by decide +kernel
theorem dX9_drawn_17 : decode cX9_drawn 17 = .ok (.invokestatic 86, 3) := by decide +kernel
theorem dX9_drawn_20 : decode cX9_drawn 20 = .ok (.ifCond .eq 23, 3) := by decide +kernel
theorem dX9_drawn_23 : decode cX9_drawn 23 = .ok (.iload 5, 2) := by decide +kernel
theorem dX9_drawn_25 : decode cX9_drawn 25 = .ok (.iconst 1, 1) := by decide +kernel
theorem dX9_drawn_26 : decode cX9_drawn 26 = .ok (.bipush 20, 2) := by decide +kernel
theorem dX9_drawn_28 : decode cX9_drawn 28 = .ok (.invokestatic 86, 3) := by decide +kernel
theorem dX9_drawn_31 : decode cX9_drawn 31 = .ok (.ifCond .eq 12, 3) := by decide +kernel
theorem dX9_drawn_34 : decode cX9_drawn 34 = .ok (.iload_n 3, 1) := by decide +kernel
theorem dX9_drawn_35 : decode cX9_drawn 35 = .ok (.iconst 0, 1) := by decide +kernel
theorem dX9_drawn_36 : decode cX9_drawn 36 = .ok (.iconst 1, 1) := by decide +kernel
theorem dX9_drawn_37 : decode cX9_drawn 37 = .ok (.invokestatic 86, 3) := by decide +kernel
theorem dX9_drawn_40 : decode cX9_drawn 40 = .ok (.ifCond .ne 5, 3) := by decide +kernel
theorem dX9_drawn_43 : decode cX9_drawn 43 = .ok (.iconst (-1), 1) := by decide +kernel
theorem dX9_drawn_44 : decode cX9_drawn 44 = .ok (.ireturn, 1) := by decide +kernel
theorem dX9_drawn_45 : decode cX9_drawn 45 = .ok (.aload_n 0, 1) := by decide +kernel
theorem dX9_drawn_46 : decode cX9_drawn 46 = .ok (.getfield 53, 3) := by decide +kernel
theorem dX9_drawn_49 : decode cX9_drawn 49 = .ok (.iload_n 1, 1) := by decide +kernel
theorem dX9_drawn_50 : decode cX9_drawn 50 = .ok (.iload 4, 2) := by decide +kernel
theorem dX9_drawn_52 : decode cX9_drawn 52 = .ok (.iload 5, 2) := by decide +kernel
theorem dX9_drawn_54 : decode cX9_drawn 54 = .ok (.imul, 1) := by decide +kernel
theorem dX9_drawn_55 : decode cX9_drawn 55 = .ok (.iload_n 3, 1) := by decide +kernel
theorem dX9_drawn_56 : decode cX9_drawn 56 = .ok (.ifCond .ne 7, 3) := by decide +kernel
theorem dX9_drawn_59 : decode cX9_drawn 59 = .ok (.iconst 1, 1) := by decide +kernel
theorem dX9_drawn_60 : decode cX9_drawn 60 = .ok (.goto 4, 3) := by decide +kernel
theorem dX9_drawn_63 : decode cX9_drawn 63 = .ok (.iconst 0, 1) := by decide +kernel
theorem dX9_drawn_64 : decode cX9_drawn 64 = .ok (.invokevirtual 239, 3) := by decide +kernel
theorem dX9_drawn_67 : decode cX9_drawn 67 = .ok (.ireturn, 1) := by decide +kernel
theorem dX9_send_0 : decode cX9_send 0 = .ok (.iload_n 2, 1) := by decide +kernel
theorem dX9_send_1 : decode cX9_send 1 = .ok (.bipush 10, 2) := by decide +kernel
theorem dX9_send_3 : decode cX9_send 3 = .ok (.idiv, 1) := by decide +kernel
theorem dX9_send_4 : decode cX9_send 4 = .ok (.istore_n 3, 1) := by decide +kernel
theorem dX9_send_5 : decode cX9_send 5 = .ok (.iload_n 2, 1) := by decide +kernel
theorem dX9_send_6 : decode cX9_send 6 = .ok (.bipush 10, 2) := by decide +kernel
theorem dX9_send_8 : decode cX9_send 8 = .ok (.irem, 1) := by decide +kernel
theorem dX9_send_9 : decode cX9_send 9 = .ok (.istore 4, 2) := by decide +kernel
theorem dX9_send_11 : decode cX9_send 11 = .ok (.iload_n 3, 1) := by decide +kernel
theorem dX9_send_12 : decode cX9_send 12 = .ok (.iload 4, 2) := by decide +kernel
theorem dX9_send_14 : decode cX9_send 14 = .ok (.if_icmp .eq 28, 3) := by decide +kernel
theorem dX9_send_17 : decode cX9_send 17 = .ok (.aload_n 0, 1) := by decide +kernel
theorem dX9_send_18 : decode cX9_send 18 = .ok (.getfield 10, 3) := by decide +kernel
theorem dX9_send_21 : decode cX9_send 21 = .ok (.iload_n 3, 1) := by decide +kernel
theorem dX9_send_22 : decode cX9_send 22 = .ok (.iconst 5, 1) := by decide +kernel
theorem dX9_send_23 : decode cX9_send 23 = .ok (.invokevirtual 108, 3) := by decide +kernel
theorem dX9_send_26 : decode cX9_send 26 = .ok (.ifCond .eq 16, 3) := by decide +kernel
theorem dX9_send_29 : decode cX9_send 29 = .ok (.aload_n 0, 1) := by decide +kernel
theorem dX9_send_30 : decode cX9_send 30 = .ok (.getfield 10, 3) := by decide +kernel
theorem dX9_send_33 : decode cX9_send 33 = .ok (.iload 4, 2) := by decide +kernel
theorem dX9_send_35 : decode cX9_send 35 = .ok (.iconst 5, 1) := by decide +kernel
theorem dX9_send_36 : decode cX9_send 36 = .ok (.invokevirtual 108, 3) := by decide +kernel
theorem dX9_send_39 : decode cX9_send 39 = .ok (.ifCond .ne 5, 3) := by decide +kernel
theorem dX9_send_42 : decode cX9_send 42 = .ok (.iconst (-1), 1) := by decide +kernel
theorem dX9_send_43 : decode cX9_send 43 = .ok (.ireturn, 1) := by decide +kernel
theorem dX9_send_44 : decode cX9_send 44 = .ok (.aload_n 0, 1) := by decide +kernel
theorem dX9_send_45 : decode cX9_send 45 = .ok (.iload_n 1, 1) := by decide +kernel
theorem dX9_send_46 : decode cX9_send 46 = .ok (.invokevirtual 132, 3) := by decide +kernel
theorem dX9_send_49 : decode cX9_send 49 = .ok (.istore 5, 2) := by decide +kernel
theorem dX9_send_51 : decode cX9_send 51 = .ok (.iload 5, 2) := by decide +kernel
theorem dX9_send_53 : decode cX9_send 53 = .ok (.ifCond .eq 6, 3) := by decide +kernel
theorem dX9_send_56 : decode cX9_send 56 = .ok (.iload 5, 2) := by decide +kernel
theorem dX9_send_58 : decode cX9_send 58 = .ok (.ireturn, 1) := by decide +kernel
theorem dX9_send_59 : decode cX9_send 59 = .ok (.aload_n 0, 1) := by decide +kernel
theorem dX9_send_60 : decode cX9_send 60 = .ok (.getfield 37, 3) := by decide +kernel
theorem dX9_send_63 : decode cX9_send 63 = .ok (.invokevirtual 141, 3) := by decide +kernel
theorem dX9_send_66 : decode cX9_send 66 = .ok (.ifCond .ne 13, 3) := by decide +kernel
theorem dX9_send_69 : decode cX9_send 69 = .ok (.aload_n 0, 1) := by decide +kernel
theorem dX9_send_70 : decode cX9_send 70 = .ok (.getfield 60, 3) := by decide +kernel
theorem dX9_send_73 : decode cX9_send 73 = .ok (.bipush (-2), 2) := by decide +kernel
theorem dX9_send_75 : decode cX9_send 75 = .ok (.invokevirtual 243, 3) := by decide +kernel
theorem dX9_send_78 : decode cX9_send 78 = .ok (.ireturn, 1) := by decide +kernel
theorem dX9_send_79 : decode cX9_send 79 = .ok (.aload_n 0, 1) := by decide +kernel
theorem dX9_send_80 : decode cX9_send 80 = .ok (.getfield 37, 3) := by decide +kernel
theorem dX9_send_83 : decode cX9_send 83 = .ok (.invokevirtual 138, 3) := by decide +kernel
theorem dX9_send_86 : decode cX9_send 86 = .ok (.istore 6, 2) := by decide +kernel
theorem dX9_send_88 : decode cX9_send 88 = .ok (.aload_n 0, 1) := by decide +kernel
theorem dX9_send_89 : decode cX9_send 89 = .ok (.getfield 37, 3) := by decide +kernel
theorem dX9_send_92 : decode cX9_send 92 = .ok (.invokevirtual 135, 3) := by decide +kernel
theorem dX9_send_95 : decode cX9_send 95 = .ok (.istore 7, 2) := by decide +kernel
theorem dX9_send_97 : decode cX9_send 97 = .ok (.aload_n 0, 1) := by decide +kernel
theorem dX9_send_98 : decode cX9_send 98 = .ok (.iload_n 3, 1) := by decide +kernel
theorem dX9_send_99 : decode cX9_send 99 = .ok (.iload 6, 2) := by decide +kernel
theorem dX9_send_101 : decode cX9_send 101 = .ok (.iload 7, 2) := by decide +kernel
theorem dX9_send_103 : decode cX9_send 103 = .ok (.invokevirtual 221, 3) := by decide +kernel
theorem dX9_send_106 : decode cX9_send 106 = .ok (.ifCond .ne 13, 3) := by decide +kernel
theorem dX9_send_109 : decode cX9_send 109 = .ok (.aload_n 0, 1) := by decide +kernel
theorem dX9_send_110 : decode cX9_send 110 = .ok (.getfield 60, 3) := by decide +kernel
theorem dX9_send_113 : decode cX9_send 113 = .ok (.bipush (-5), 2) := by decide +kernel
theorem dX9_send_115 : decode cX9_send 115 = .ok (.invokevirtual 243, 3) := by decide +kernel
theorem dX9_send_118 : decode cX9_send 118 = .ok (.ireturn, 1) := by decide +kernel
theorem dX9_send_119 : decode cX9_send 119 = .ok (.aload_n 0, 1) := by decide +kernel
theorem dX9_send_120 : decode cX9_send 120 = .ok (.getfield 10, 3) := by decide +kernel
theorem dX9_send_123 : decode cX9_send 123 = .ok (.iload_n 3, 1) := by decide +kernel
theorem dX9_send_124 : decode cX9_send 124 = .ok (.iconst 5, 1) := by decide +kernel
theorem dX9_send_125 : decode cX9_send 125 = .ok (.aload_n 0, 1) := by decide +kernel
theorem dX9_send_126 : decode cX9_send 126 = .ok (.getfield 10, 3) := by decide +kernel
theorem dX9_send_129 : decode cX9_send 129 = .ok (.iload_n 3, 1) := by decide +kernel
theorem dX9_send_130 : decode cX9_send 130 = .ok (.iconst 5, 1) := by decide +kernel
theorem dX9_send_131 : decode cX9_send 131 = .ok (.invokevirtual 111, 3) := by decide +kernel
theorem dX9_send_134 : decode cX9_send 134 = .ok (.iload 7, 2) := by decide +kernel
theorem dX9_send_136 : decode cX9_send 136 = .ok (.isub, 1) := by decide +kernel
theorem dX9_send_137 : decode cX9_send 137 = .ok (.invokevirtual 114, 3) := by decide +kernel
theorem dX9_send_140 : decode cX9_send 140 = .ok (.aload_n 0, 1) := by decide +kernel
theorem dX9_send_141 : decode cX9_send 141 = .ok (.getfield 10, 3) := by decide +kernel
theorem dX9_send_144 : decode cX9_send 144 = .ok (.iload 4, 2) := by decide +kernel
theorem dX9_send_146 : decode cX9_send 146 = .ok (.bipush 6, 2) := by decide +kernel
theorem dX9_send_148 : decode cX9_send 148 = .ok (.aload_n 0, 1) := by decide +kernel
theorem dX9_send_149 : decode cX9_send 149 = .ok (.getfield 10, 3) := by decide +kernel
theorem dX9_send_152 : decode cX9_send 152 = .ok (.iload 4, 2) := by decide +kernel
theorem dX9_send_154 : decode cX9_send 154 = .ok (.bipush 6, 2) := by decide +kernel
theorem dX9_send_156 : decode cX9_send 156 = .ok (.invokevirtual 111, 3) := by decide +kernel
theorem dX9_send_159 : decode cX9_send 159 = .ok (.iload 6, 2) := by decide +kernel
theorem dX9_send_161 : decode cX9_send 161 = .ok (.ior, 1) := by decide +kernel
theorem dX9_send_162 : decode cX9_send 162 = .ok (.invokevirtual 114, 3) := by decide +kernel
theorem dX9_send_165 : decode cX9_send 165 = .ok (.aload_n 0, 1) := by decide +kernel
theorem dX9_send_166 : decode cX9_send 166 = .ok (.getfield 60, 3) := by decide +kernel
theorem dX9_send_169 : decode cX9_send 169 = .ok (.aload_n 0, 1) := by decide +kernel
theorem dX9_send_170 : decode cX9_send 170 = .ok (.getfield 37, 3) := by decide +kernel
theorem dX9_send_173 : decode cX9_send 173 = .ok (.getfield 145, 3) := by decide +kernel
theorem dX9_send_176 : decode cX9_send 176 = .ok (.iload 7, 2) := by decide +kernel
theorem dX9_send_178 : decode cX9_send 178 = .ok (.invokevirtual 246, 3) := by decide +kernel
theorem dX9_send_181 : decode cX9_send 181 = .ok (.iload 7, 2) := by decide +kernel
theorem dX9_send_183 : decode cX9_send 183 = .ok (.ireturn, 1) := by decide +kernel
theorem dX9_night_0 : decode cX9_night 0 = .ok (.aload_n 0, 1) := by decide +kernel
theorem dX9_night_1 : decode cX9_night 1 = .ok (.getfield 10, 3) := by decide +kernel
theorem dX9_night_4 : decode cX9_night 4 = .ok (.iconst 0, 1) := by decide +kernel
theorem dX9_night_5 : decode cX9_night 5 = .ok (.bipush 7, 2) := by decide +kernel
theorem dX9_night_7 : decode cX9_night 7 = .ok (.iconst 1, 1) := by decide +kernel
theorem dX9_night_8 : decode cX9_night 8 = .ok (.aload_n 0, 1) := by decide +kernel
theorem dX9_night_9 : decode cX9_night 9 = .ok (.getfield 10, 3) := by decide +kernel
theorem dX9_night_12 : decode cX9_night 12 = .ok (.iconst 0, 1) := by decide +kernel
theorem dX9_night_13 : decode cX9_night 13 = .ok (.bipush 7, 2) := by decide +kernel
theorem dX9_night_15 : decode cX9_night 15 = .ok (.invokevirtual 111, 3) := by decide +kernel
theorem dX9_night_18 : decode cX9_night 18 = .ok (.isub, 1) := by decide +kernel
theorem dX9_night_19 : decode cX9_night 19 = .ok (.invokevirtual 114, 3) := by decide +kernel
theorem dX9_night_22 : decode cX9_night 22 = .ok (.aload_n 0, 1) := by decide +kernel
theorem dX9_night_23 : decode cX9_night 23 = .ok (.getfield 10, 3) := by decide +kernel
theorem dX9_night_26 : decode cX9_night 26 = .ok (.iconst 0, 1) := by decide +kernel
theorem dX9_night_27 : decode cX9_night 27 = .ok (.bipush 7, 2) := by decide +kernel
theorem dX9_night_29 : decode cX9_night 29 = .ok (.invokevirtual 111, 3) := by decide +kernel
theorem dX9_night_32 : decode cX9_night 32 = .ok (.ireturn, 1) := by decide +kernel
theorem dX9_led_0 : decode cX9_led 0 = .ok (.iload_n 1, 1) := by decide +kernel
theorem dX9_led_1 : decode cX9_led 1 = .ok (.iconst 0, 1) := by decide +kernel
theorem dX9_led_2 : decode cX9_led 2 = .ok (.iconst 4, 1) := by decide +kernel
theorem dX9_led_3 : decode cX9_led 3 = .ok (.invokestatic 86, 3) := by decide +kernel
theorem dX9_led_6 : decode cX9_led 6 = .ok (.ifCond .eq 15, 3) := by decide +kernel
theorem dX9_led_9 : decode cX9_led 9 = .ok (.aload_n 0, 1) := by decide +kernel
theorem dX9_led_10 : decode cX9_led 10 = .ok (.getfield 60, 3) := by decide +kernel
theorem dX9_led_13 : decode cX9_led 13 = .ok (.getfield 250, 3) := by decide +kernel
theorem dX9_led_16 : decode cX9_led 16 = .ok (.iload_n 1, 1) := by decide +kernel
theorem dX9_led_17 : decode cX9_led 17 = .ok (.iaload, 1) := by decide +kernel
theorem dX9_led_18 : decode cX9_led 18 = .ok (.goto 4, 3) := by decide +kernel
theorem dX9_led_21 : decode cX9_led 21 = .ok (.iconst (-1), 1) := by decide +kernel
theorem dX9_led_22 : decode cX9_led 22 = .ok (.ireturn, 1) := by decide +kernel
theorem dX9_image_0 : decode cX9_image 0 = .ok (.aload_n 0, 1) := by decide +kernel
theorem dX9_image_1 : decode cX9_image 1 = .ok (.getfield 60, 3) := by decide +kernel
theorem dX9_image_4 : decode cX9_image 4 = .ok (.invokevirtual 254, 3) := by decide +kernel
theorem dX9_image_7 : decode cX9_image 7 = .ok (.ireturn, 1) := by decide +kernel
theorem dX9_back_0 : decode cX9_back 0 = .ok (.aload_n 0, 1) := by decide +kernel
theorem dX9_back_1 : decode cX9_back 1 = .ok (.getfield 60, 3) := by decide +kernel
theorem dX9_back_4 : decode cX9_back 4 = .ok (.invokevirtual 257, 3) := by decide +kernel
theorem dX9_back_7 : decode cX9_back 7 = .ok (.ireturn, 1) := by decide +kernel
theorem dX9_undo_0 : decode cX9_undo 0 = .ok (.aload_n 0, 1) := by decide +kernel
theorem dX9_undo_1 : decode cX9_undo 1 = .ok (.getfield 67, 3) := by decide +kernel
theorem dX9_undo_4 : decode cX9_undo 4 = .ok (.invokevirtual 260, 3) := by decide +kernel
theorem dX9_undo_7 : decode cX9_undo 7 = .ok (.ireturn, 1) := by decide +kernel
theorem dX9_redo_0 : decode cX9_redo 0 = .ok (.aload_n 0, 1) := by decide +kernel
theorem dX9_redo_1 : decode cX9_redo 1 = .ok (.getfield 67, 3) := by decide +kernel
theorem dX9_redo_4 : decode cX9_redo 4 = .ok (.invokevirtual 263, 3) := by decide +kernel
theorem dX9_redo_7 : decode cX9_redo 7 = .ok (.ireturn, 1) := by decide +kernel
theorem dX9_body_0 : decode cX9_body 0 = .ok (.iload_n 1, 1) := by decide +kernel
theorem dX9_body_1 : decode cX9_body 1 = .ok (.iconst 0, 1) := by decide +kernel
theorem dX9_body_2 : decode cX9_body 2 = .ok (.bipush 7, 2) := by decide +kernel
theorem dX9_body_4 : decode cX9_body 4 = .ok (.invokestatic 86, 3) := by decide +kernel
theorem dX9_body_7 : decode cX9_body 7 = .ok (.ifCond .eq 14, 3) := by decide +kernel
theorem dX9_body_10 : decode cX9_body 10 = .ok (.aload_n 0, 1) := by decide +kernel
theorem dX9_body_11 : decode cX9_body 11 = .ok (.getfield 74, 3) := by decide +kernel
theorem dX9_body_14 : decode cX9_body 14 = .ok (.iload_n 1, 1) := by decide +kernel
theorem dX9_body_15 : decode cX9_body 15 = .ok (.invokevirtual 266, 3) := by decide +kernel
theorem dX9_body_18 : decode cX9_body 18 = .ok (.goto 4, 3) := by decide +kernel
theorem dX9_body_21 : decode cX9_body 21 = .ok (.iconst (-1), 1) := by decide +kernel
theorem dX9_body_22 : decode cX9_body 22 = .ok (.ireturn, 1) := by decide +kernel
theorem dX9_act_0 : decode cX9_act 0 = .ok (.aload_n 0, 1) := by decide +kernel
theorem dX9_act_1 : decode cX9_act 1 = .ok (.getfield 74, 3) := by decide +kernel
theorem dX9_act_4 : decode cX9_act 4 = .ok (.iload_n 1, 1) := by decide +kernel
theorem dX9_act_5 : decode cX9_act 5 = .ok (.iload_n 2, 1) := by decide +kernel
theorem dX9_act_6 : decode cX9_act 6 = .ok (.iload_n 3, 1) := by decide +kernel
theorem dX9_act_7 : decode cX9_act 7 = .ok (.invokevirtual 269, 3) := by decide +kernel
theorem dX9_act_10 : decode cX9_act 10 = .ok (.ireturn, 1) := by decide +kernel
theorem dX9_trace_0 : decode cX9_trace 0 = .ok (.aload_n 0, 1) := by decide +kernel
theorem dX9_trace_1 : decode cX9_trace 1 = .ok (.getfield 74, 3) := by decide +kernel
theorem dX9_trace_4 : decode cX9_trace 4 = .ok (.iload_n 1, 1) := by decide +kernel
theorem dX9_trace_5 : decode cX9_trace 5 = .ok (.invokevirtual 272, 3) := by decide +kernel
theorem dX9_trace_8 : decode cX9_trace 8 = .ok (.ireturn, 1) := by decide +kernel
theorem dX9_keep_0 : decode cX9_keep 0 = .ok (.aload_n 0, 1) := by decide +kernel
theorem dX9_keep_1 : decode cX9_keep 1 = .ok (.getfield 28, 3) := by decide +kernel
theorem dX9_keep_4 : decode cX9_keep 4 = .ok (.iload_n 1, 1) := by decide +kernel
theorem dX9_keep_5 : decode cX9_keep 5 = .ok (.invokevirtual 275, 3) := by decide +kernel
theorem dX9_keep_8 : decode cX9_keep 8 = .ok (.ifCond .eq 20, 3) := by decide +kernel
theorem dX9_keep_11 : decode cX9_keep 11 = .ok (.iload_n 2, 1) := by decide +kernel
theorem dX9_keep_12 : decode cX9_keep 12 = .ok (.iconst (-1), 1) := by decide +kernel
theorem dX9_keep_13 : decode cX9_keep 13 = .ok (.aload_n 0, 1) := by decide +kernel
theorem dX9_keep_14 : decode cX9_keep 14 = .ok (.getfield 74, 3) := by decide +kernel
theorem dX9_keep_17 : decode cX9_keep 17 = .ok (.getfield 278, 3) := by decide +kernel
theorem dX9_keep_20 : decode cX9_keep 20 = .ok (.iconst 1, 1) := by decide +kernel
theorem dX9_keep_21 : decode cX9_keep 21 = .ok (.isub, 1) := by decide +kernel
theorem dX9_keep_22 : decode cX9_keep 22 = .ok (.invokestatic 86, 3) := by decide +kernel
theorem dX9_keep_25 : decode cX9_keep 25 = .ok (.ifCond .ne 5, 3) := by decide +kernel
theorem dX9_keep_28 : decode cX9_keep 28 = .ok (.iconst (-1), 1) := by decide +kernel
theorem dX9_keep_29 : decode cX9_keep 29 = .ok (.ireturn, 1) := by decide +kernel
theorem dX9_keep_30 : decode cX9_keep 30 = .ok (.aload_n 0, 1) := by decide +kernel
theorem dX9_keep_31 : decode cX9_keep 31 = .ok (.getfield 28, 3) := by decide +kernel
theorem dX9_keep_34 : decode cX9_keep 34 = .ok (.iload_n 1, 1) := by decide +kernel
theorem dX9_keep_35 : decode cX9_keep 35 = .ok (.iload_n 2, 1) := by decide +kernel
theorem dX9_keep_36 : decode cX9_keep 36 = .ok (.invokevirtual 279, 3) := by decide +kernel
theorem dX9_keep_39 : decode cX9_keep 39 = .ok (.iconst 1, 1) := by decide +kernel
theorem dX9_keep_40 : decode cX9_keep 40 = .ok (.ireturn, 1) := by decide +kernel
theorem dX9_row_0 : decode cX9_row 0 = .ok (.aload_n 0, 1) := by decide +kernel
theorem dX9_row_1 : decode cX9_row 1 = .ok (.getfield 28, 3) := by decide +kernel
theorem dX9_row_4 : decode cX9_row 4 = .ok (.iload_n 1, 1) := by decide +kernel
theorem dX9_row_5 : decode cX9_row 5 = .ok (.invokevirtual 275, 3) := by decide +kernel
theorem dX9_row_8 : decode cX9_row 8 = .ok (.ifCond .eq 18, 3) := by decide +kernel
theorem dX9_row_11 : decode cX9_row 11 = .ok (.iload_n 2, 1) := by decide +kernel
theorem dX9_row_12 : decode cX9_row 12 = .ok (.iconst 0, 1) := by decide +kernel
theorem dX9_row_13 : decode cX9_row 13 = .ok (.iconst 4, 1) := by decide +kernel
theorem dX9_row_14 : decode cX9_row 14 = .ok (.invokestatic 86, 3) := by decide +kernel
theorem dX9_row_17 : decode cX9_row 17 = .ok (.ifCond .eq 9, 3) := by decide +kernel
theorem dX9_row_20 : decode cX9_row 20 = .ok (.iload_n 3, 1) := by decide +kernel
theorem dX9_row_21 : decode cX9_row 21 = .ok (.bipush 60, 2) := by decide +kernel
theorem dX9_row_23 : decode cX9_row 23 = .ok (.if_icmp .le 5, 3) := by decide +kernel
theorem dX9_row_26 : decode cX9_row 26 = .ok (.iconst (-1), 1) := by decide +kernel
theorem dX9_row_27 : decode cX9_row 27 = .ok (.ireturn, 1) := by decide +kernel
theorem dX9_row_28 : decode cX9_row 28 = .ok (.iload_n 3, 1) := by decide +kernel
theorem dX9_row_29 : decode cX9_row 29 = .ok (.ifCond .ge 6, 3) := by decide +kernel
theorem dX9_row_32 : decode cX9_row 32 = .ok (.bipush (-14), 2) := by decide +kernel
theorem dX9_row_34 : decode cX9_row 34 = .ok (.ireturn, 1) := by decide +kernel
theorem dX9_row_35 : decode cX9_row 35 = .ok (.aload_n 0, 1) := by decide +kernel
theorem dX9_row_36 : decode cX9_row 36 = .ok (.getfield 28, 3) := by decide +kernel
theorem dX9_row_39 : decode cX9_row 39 = .ok (.iload_n 1, 1) := by decide +kernel
theorem dX9_row_40 : decode cX9_row 40 = .ok (.iload_n 2, 1) := by decide +kernel
theorem dX9_row_41 : decode cX9_row 41 = .ok (.iload_n 3, 1) := by decide +kernel
theorem dX9_row_42 : decode cX9_row 42 = .ok (.invokevirtual 282, 3) := by decide +kernel
theorem dX9_row_45 : decode cX9_row 45 = .ok (.iconst 1, 1) := by decide +kernel
theorem dX9_row_46 : decode cX9_row 46 = .ok (.ireturn, 1) := by decide +kernel
theorem dX9_put_0 : decode cX9_put 0 = .ok (.aload_n 0, 1) := by decide +kernel
theorem dX9_put_1 : decode cX9_put 1 = .ok (.getfield 28, 3) := by decide +kernel
theorem dX9_put_4 : decode cX9_put 4 = .ok (.iload_n 1, 1) := by decide +kernel
theorem dX9_put_5 : decode cX9_put 5 = .ok (.iload_n 2, 1) := by decide +kernel
theorem dX9_put_6 : decode cX9_put 6 = .ok (.invokevirtual 285, 3) := by decide +kernel
theorem dX9_put_9 : decode cX9_put 9 = .ok (.istore 5, 2) := by decide +kernel
theorem dX9_put_11 : decode cX9_put 11 = .ok (.iload 5, 2) := by decide +kernel
theorem dX9_put_13 : decode cX9_put 13 = .ok (.ifCond .eq 6, 3) := by decide +kernel
theorem dX9_put_16 : decode cX9_put 16 = .ok (.iload 5, 2) := by decide +kernel
theorem dX9_put_18 : decode cX9_put 18 = .ok (.ireturn, 1) := by decide +kernel
theorem dX9_put_19 : decode cX9_put 19 = .ok (.aload_n 0, 1) := by decide +kernel
theorem dX9_put_20 : decode cX9_put 20 = .ok (.getfield 28, 3) := by decide +kernel
theorem dX9_put_23 : decode cX9_put 23 = .ok (.iload_n 1, 1) := by decide +kernel
theorem dX9_put_24 : decode cX9_put 24 = .ok (.iload_n 2, 1) := by decide +kernel
theorem dX9_put_25 : decode cX9_put 25 = .ok (.lload_n 3, 1) := by decide +kernel
theorem dX9_put_26 : decode cX9_put 26 = .ok (.invokevirtual 288, 3) := by decide +kernel
theorem dX9_put_29 : decode cX9_put 29 = .ok (.iconst 1, 1) := by decide +kernel
theorem dX9_put_30 : decode cX9_put 30 = .ok (.ireturn, 1) := by decide +kernel
theorem dX9_element_0 : decode cX9_element 0 = .ok (.aload_n 0, 1) := by decide +kernel
theorem dX9_element_1 : decode cX9_element 1 = .ok (.getfield 28, 3) := by decide +kernel
theorem dX9_element_4 : decode cX9_element 4 = .ok (.iload_n 1, 1) := by decide +kernel
theorem dX9_element_5 : decode cX9_element 5 = .ok (.iload_n 2, 1) := by decide +kernel
theorem dX9_element_6 : decode cX9_element 6 = .ok (.invokevirtual 285, 3) := by decide +kernel
theorem dX9_element_9 : decode cX9_element 9 = .ok (.ifCond .ne 15, 3) := by decide +kernel
theorem dX9_element_12 : decode cX9_element 12 = .ok (.aload_n 0, 1) := by decide +kernel
theorem dX9_element_13 : decode cX9_element 13 = .ok (.getfield 28, 3) := by decide +kernel
theorem dX9_element_16 : decode cX9_element 16 = .ok (.iload_n 1, 1) := by decide +kernel
theorem dX9_element_17 : decode cX9_element 17 = .ok (.iload_n 2, 1) := by decide +kernel
theorem dX9_element_18 : decode cX9_element 18 = .ok (.invokevirtual 101, 3) := by decide +kernel
theorem dX9_element_21 : decode cX9_element 21 = .ok (.goto 6, 3) := by decide +kernel
theorem dX9_element_24 : decode cX9_element 24 = .ok (.ldc2_w 199, 3) := by decide +kernel
theorem dX9_element_27 : decode cX9_element 27 = .ok (.lreturn, 1) := by decide +kernel
theorem dX9_shift_0 : decode cX9_shift 0 = .ok (.aload_n 0, 1) := by decide +kernel
theorem dX9_shift_1 : decode cX9_shift 1 = .ok (.getfield 28, 3) := by decide +kernel
theorem dX9_shift_4 : decode cX9_shift 4 = .ok (.iload_n 1, 1) := by decide +kernel
theorem dX9_shift_5 : decode cX9_shift 5 = .ok (.iload_n 2, 1) := by decide +kernel
theorem dX9_shift_6 : decode cX9_shift 6 = .ok (.iload_n 3, 1) := by decide +kernel
theorem dX9_shift_7 : decode cX9_shift 7 = .ok (.iload 4, 2) := by decide +kernel
theorem dX9_shift_9 : decode cX9_shift 9 = .ok (.iload 5, 2) := by decide +kernel
theorem dX9_shift_11 : decode cX9_shift 11 = .ok (.invokevirtual 292, 3) := by decide +kernel
theorem dX9_shift_14 : decode cX9_shift 14 = .ok (.ireturn, 1) := by decide +kernel
theorem dX9_taken_0 : decode cX9_taken 0 = .ok (.iload_n 2, 1) := by decide +kernel
theorem dX9_taken_1 : decode cX9_taken 1 = .ok (.iconst 0, 1) := by decide +kernel
theorem dX9_taken_2 : decode cX9_taken 2 = .ok (.bipush 7, 2) := by decide +kernel
theorem dX9_taken_4 : decode cX9_taken 4 = .ok (.invokestatic 86, 3) := by decide +kernel
theorem dX9_taken_7 : decode cX9_taken 7 = .ok (.ifCond .ne 5, 3) := by decide +kernel
theorem dX9_taken_10 : decode cX9_taken 10 = .ok (.iconst (-1), 1) := by decide +kernel
theorem dX9_taken_11 : decode cX9_taken 11 = .ok (.ireturn, 1) := by decide +kernel
theorem dX9_taken_12 : decode cX9_taken 12 = .ok (.aload_n 0, 1) := by decide +kernel
theorem dX9_taken_13 : decode cX9_taken 13 = .ok (.getfield 28, 3) := by decide +kernel
theorem dX9_taken_16 : decode cX9_taken 16 = .ok (.iload_n 1, 1) := by decide +kernel
theorem dX9_taken_17 : decode cX9_taken 17 = .ok (.iconst 5, 1) := by decide +kernel
theorem dX9_taken_18 : decode cX9_taken 18 = .ok (.invokevirtual 90, 3) := by decide +kernel
theorem dX9_taken_21 : decode cX9_taken 21 = .ok (.istore_n 3, 1) := by decide +kernel
theorem dX9_taken_22 : decode cX9_taken 22 = .ok (.iload_n 3, 1) := by decide +kernel
theorem dX9_taken_23 : decode cX9_taken 23 = .ok (.ifCond .eq 5, 3) := by decide +kernel
theorem dX9_taken_26 : decode cX9_taken 26 = .ok (.iload_n 3, 1) := by decide +kernel
theorem dX9_taken_27 : decode cX9_taken 27 = .ok (.ireturn, 1) := by decide +kernel
theorem dX9_taken_28 : decode cX9_taken 28 = .ok (.aload_n 0, 1) := by decide +kernel
theorem dX9_taken_29 : decode cX9_taken 29 = .ok (.getfield 74, 3) := by decide +kernel
theorem dX9_taken_32 : decode cX9_taken 32 = .ok (.aload_n 0, 1) := by decide +kernel
theorem dX9_taken_33 : decode cX9_taken 33 = .ok (.getfield 28, 3) := by decide +kernel
theorem dX9_taken_36 : decode cX9_taken 36 = .ok (.iload_n 1, 1) := by decide +kernel
theorem dX9_taken_37 : decode cX9_taken 37 = .ok (.invokevirtual 296, 3) := by decide +kernel
theorem dX9_taken_40 : decode cX9_taken 40 = .ok (.invokevirtual 299, 3) := by decide +kernel
theorem dX9_taken_43 : decode cX9_taken 43 = .ok (.istore 4, 2) := by decide +kernel
theorem dX9_taken_45 : decode cX9_taken 45 = .ok (.iload 4, 2) := by decide +kernel
theorem dX9_taken_47 : decode cX9_taken 47 = .ok (.iload_n 2, 1) := by decide +kernel
theorem dX9_taken_48 : decode cX9_taken 48 = .ok (.invokestatic 302, 3) := by decide +kernel
theorem dX9_taken_51 : decode cX9_taken 51 = .ok (.ifCond .eq 8, 3) := by decide +kernel
theorem dX9_taken_54 : decode cX9_taken 54 = .ok (.iload 4, 2) := by decide +kernel
theorem dX9_taken_56 : decode cX9_taken 56 = .ok (.goto 5, 3) := by decide +kernel
theorem dX9_taken_59 : decode cX9_taken 59 = .ok (.bipush (-12), 2) := by decide +kernel
theorem dX9_taken_61 : decode cX9_taken 61 = .ok (.ireturn, 1) := by decide +kernel
theorem dX9_count_0 : decode cX9_count 0 = .ok (.iload_n 1, 1) := by decide +kernel
theorem dX9_count_1 : decode cX9_count 1 = .ok (.tableswitch 87 0 5 #[39, 47, 55, 63, 71, 79], 39) := by decide +kernel
theorem dX9_count_40 : decode cX9_count 40 = .ok (.aload_n 0, 1) := by decide +kernel
theorem dX9_count_41 : decode cX9_count 41 = .ok (.getfield 10, 3) := by decide +kernel
theorem dX9_count_44 : decode cX9_count 44 = .ok (.getfield 236, 3) := by decide +kernel
theorem dX9_count_47 : decode cX9_count 47 = .ok (.ireturn, 1) := by decide +kernel
theorem dX9_count_48 : decode cX9_count 48 = .ok (.aload_n 0, 1) := by decide +kernel
theorem dX9_count_49 : decode cX9_count 49 = .ok (.getfield 10, 3) := by decide +kernel
theorem dX9_count_52 : decode cX9_count 52 = .ok (.getfield 218, 3) := by decide +kernel
theorem dX9_count_55 : decode cX9_count 55 = .ok (.ireturn, 1) := by decide +kernel
theorem dX9_count_56 : decode cX9_count 56 = .ok (.aload_n 0, 1) := by decide +kernel
theorem dX9_count_57 : decode cX9_count 57 = .ok (.getfield 21, 3) := by decide +kernel
theorem dX9_count_60 : decode cX9_count 60 = .ok (.getfield 305, 3) := by decide +kernel
theorem dX9_count_63 : decode cX9_count 63 = .ok (.ireturn, 1) := by decide +kernel
theorem dX9_count_64 : decode cX9_count 64 = .ok (.aload_n 0, 1) := by decide +kernel
theorem dX9_count_65 : decode cX9_count 65 = .ok (.getfield 67, 3) := by decide +kernel
theorem dX9_count_68 : decode cX9_count 68 = .ok (.getfield 308, 3) := by decide +kernel
theorem dX9_count_71 : decode cX9_count 71 = .ok (.ireturn, 1) := by decide +kernel
theorem dX9_count_72 : decode cX9_count 72 = .ok (.aload_n 0, 1) := by decide +kernel
theorem dX9_count_73 : decode cX9_count 73 = .ok (.getfield 74, 3) := by decide +kernel
theorem dX9_count_76 : decode cX9_count 76 = .ok (.getfield 278, 3) := by decide +kernel
theorem dX9_count_79 : decode cX9_count 79 = .ok (.ireturn, 1) := by decide +kernel
theorem dX9_count_80 : decode cX9_count 80 = .ok (.aload_n 0, 1) := by decide +kernel
theorem dX9_count_81 : decode cX9_count 81 = .ok (.getfield 74, 3) := by decide +kernel
theorem dX9_count_84 : decode cX9_count 84 = .ok (.getfield 311, 3) := by decide +kernel
theorem dX9_count_87 : decode cX9_count 87 = .ok (.ireturn, 1) := by decide +kernel
theorem dX9_count_88 : decode cX9_count 88 = .ok (.iconst (-1), 1) := by decide +kernel
theorem dX9_count_89 : decode cX9_count 89 = .ok (.ireturn, 1) := by decide +kernel
theorem dX9_between_0 : decode cX9_between 0 = .ok (.iload_n 0, 1) := by decide +kernel
theorem dX9_between_1 : decode cX9_between 1 = .ok (.iload_n 1, 1) := by decide +kernel
theorem dX9_between_2 : decode cX9_between 2 = .ok (.if_icmp .lt 12, 3) := by decide +kernel
theorem dX9_between_5 : decode cX9_between 5 = .ok (.iload_n 0, 1) := by decide +kernel
theorem dX9_between_6 : decode cX9_between 6 = .ok (.iload_n 2, 1) := by decide +kernel
theorem dX9_between_7 : decode cX9_between 7 = .ok (.if_icmp .gt 7, 3) := by decide +kernel
theorem dX9_between_10 : decode cX9_between 10 = .ok (.iconst 1, 1) := by decide +kernel
theorem dX9_between_11 : decode cX9_between 11 = .ok (.goto 4, 3) := by decide +kernel
theorem dX9_between_14 : decode cX9_between 14 = .ok (.iconst 0, 1) := by decide +kernel
theorem dX9_between_15 : decode cX9_between 15 = .ok (.ireturn, 1) := by decide +kernel
theorem dX9_inLowest_0 : decode cX9_inLowest 0 = .ok (.lload_n 0, 1) := by decide +kernel
theorem dX9_inLowest_1 : decode cX9_inLowest 1 = .ok (.lconst 0, 1) := by decide +kernel
theorem dX9_inLowest_2 : decode cX9_inLowest 2 = .ok (.lcmp, 1) := by decide +kernel
theorem dX9_inLowest_3 : decode cX9_inLowest 3 = .ok (.ifCond .le 9, 3) := by decide +kernel
theorem dX9_inLowest_6 : decode cX9_inLowest 6 = .ok (.lload_n 2, 1) := by decide +kernel
theorem dX9_inLowest_7 : decode cX9_inLowest 7 = .ok (.lconst 0, 1) := by decide +kernel
theorem dX9_inLowest_8 : decode cX9_inLowest 8 = .ok (.lcmp, 1) := by decide +kernel
theorem dX9_inLowest_9 : decode cX9_inLowest 9 = .ok (.ifCond .gt 7, 3) := by decide +kernel
theorem dX9_inLowest_12 : decode cX9_inLowest 12 = .ok (.iload 4, 2) := by decide +kernel
theorem dX9_inLowest_14 : decode cX9_inLowest 14 = .ok (.i2l, 1) := by decide +kernel
theorem dX9_inLowest_15 : decode cX9_inLowest 15 = .ok (.lreturn, 1) := by decide +kernel
theorem dX9_inLowest_16 : decode cX9_inLowest 16 = .ok (.lload_n 0, 1) := by decide +kernel
theorem dX9_inLowest_17 : decode cX9_inLowest 17 = .ok (.lstore 5, 2) := by decide +kernel
theorem dX9_inLowest_19 : decode cX9_inLowest 19 = .ok (.lload_n 2, 1) := by decide +kernel
theorem dX9_inLowest_20 : decode cX9_inLowest 20 = .ok (.lstore 7, 2) := by decide +kernel
theorem dX9_inLowest_22 : decode cX9_inLowest 22 = .ok (.iconst 0, 1) := by decide +kernel
theorem dX9_inLowest_23 : decode cX9_inLowest 23 = .ok (.istore 9, 2) := by decide +kernel
theorem dX9_inLowest_25 : decode cX9_inLowest 25 = .ok (.iload 9, 2) := by decide +kernel
theorem dX9_inLowest_27 : decode cX9_inLowest 27 = .ok (.sipush 200, 3) := by decide +kernel
theorem dX9_inLowest_30 : decode cX9_inLowest 30 = .ok (.if_icmp .ge 31, 3) := by decide +kernel
theorem dX9_inLowest_33 : decode cX9_inLowest 33 = .ok (.lload 7, 2) := by decide +kernel
theorem dX9_inLowest_35 : decode cX9_inLowest 35 = .ok (.lconst 0, 1) := by decide +kernel
theorem dX9_inLowest_36 : decode cX9_inLowest 36 = .ok (.lcmp, 1) := by decide +kernel
theorem dX9_inLowest_37 : decode cX9_inLowest 37 = .ok (.ifCond .eq 24, 3) := by decide +kernel
theorem dX9_inLowest_40 : decode cX9_inLowest 40 = .ok (.lload 5, 2) := by decide +kernel
theorem dX9_inLowest_42 : decode cX9_inLowest 42 = .ok (.lload 7, 2) := by decide +kernel
theorem dX9_inLowest_44 : decode cX9_inLowest 44 = .ok (.lrem, 1) := by decide +kernel
theorem dX9_inLowest_45 : decode cX9_inLowest 45 = .ok (.lstore 10, 2) := by decide +kernel
theorem dX9_inLowest_47 : decode cX9_inLowest 47 = .ok (.lload 7, 2) := by decide +kernel
theorem dX9_inLowest_49 : decode cX9_inLowest 49 = .ok (.lstore 5, 2) := by decide +kernel
theorem dX9_inLowest_51 : decode cX9_inLowest 51 = .ok (.lload 10, 2) := by decide +kernel
theorem dX9_inLowest_53 : decode cX9_inLowest 53 = .ok (.lstore 7, 2) := by decide +kernel
theorem dX9_inLowest_55 : decode cX9_inLowest 55 = .ok (.iinc 9 1, 3) := by decide +kernel
theorem dX9_inLowest_58 : decode cX9_inLowest 58 = .ok (.goto (-33), 3) := by decide +kernel
theorem dX9_inLowest_61 : decode cX9_inLowest 61 = .ok (.lload 5, 2) := by decide +kernel
theorem dX9_inLowest_63 : decode cX9_inLowest 63 = .ok (.lconst 0, 1) := by decide +kernel
theorem dX9_inLowest_64 : decode cX9_inLowest 64 = .ok (.lcmp, 1) := by decide +kernel
theorem dX9_inLowest_65 : decode cX9_inLowest 65 = .ok (.ifCond .gt 7, 3) := by decide +kernel
theorem dX9_inLowest_68 : decode cX9_inLowest 68 = .ok (.iload 4, 2) := by decide +kernel
theorem dX9_inLowest_70 : decode cX9_inLowest 70 = .ok (.i2l, 1) := by decide +kernel
theorem dX9_inLowest_71 : decode cX9_inLowest 71 = .ok (.lreturn, 1) := by decide +kernel
theorem dX9_inLowest_72 : decode cX9_inLowest 72 = .ok (.iload 4, 2) := by decide +kernel
theorem dX9_inLowest_74 : decode cX9_inLowest 74 = .ok (.ifCond .ne 10, 3) := by decide +kernel
theorem dX9_inLowest_77 : decode cX9_inLowest 77 = .ok (.lload_n 0, 1) := by decide +kernel
theorem dX9_inLowest_78 : decode cX9_inLowest 78 = .ok (.lload 5, 2) := by decide +kernel
theorem dX9_inLowest_80 : decode cX9_inLowest 80 = .ok (.ldiv, 1) := by decide +kernel
theorem dX9_inLowest_81 : decode cX9_inLowest 81 = .ok (.goto 7, 3) := by decide +kernel
theorem dX9_inLowest_84 : decode cX9_inLowest 84 = .ok (.lload_n 2, 1) := by decide +kernel
theorem dX9_inLowest_85 : decode cX9_inLowest 85 = .ok (.lload 5, 2) := by decide +kernel
theorem dX9_inLowest_87 : decode cX9_inLowest 87 = .ok (.ldiv, 1) := by decide +kernel
theorem dX9_inLowest_88 : decode cX9_inLowest 88 = .ok (.lreturn, 1) := by decide +kernel
theorem dJ7_fill_d0a16_0 : decode cJ7_fill_d0a16 0 = .ok (.iconst 0, 1) := by decide +kernel
theorem dJ7_fill_d0a16_1 : decode cJ7_fill_d0a16 1 = .ok (.istore_n 3, 1) := by decide +kernel
theorem dJ7_fill_d0a16_2 : decode cJ7_fill_d0a16 2 = .ok (.aload_n 0, 1) := by decide +kernel
theorem dJ7_fill_d0a16_3 : decode cJ7_fill_d0a16 3 = .ok (.arraylength, 1) := by decide +kernel
theorem dJ7_fill_d0a16_4 : decode cJ7_fill_d0a16 4 = .ok (.istore 4, 2) := by decide +kernel
theorem dJ7_fill_d0a16_6 : decode cJ7_fill_d0a16 6 = .ok (.iload_n 3, 1) := by decide +kernel
theorem dJ7_fill_d0a16_7 : decode cJ7_fill_d0a16 7 = .ok (.iload 4, 2) := by decide +kernel
theorem dJ7_fill_d0a16_9 : decode cJ7_fill_d0a16 9 = .ok (.if_icmp .ge 13, 3) := by decide +kernel
theorem dJ7_fill_d0a16_12 : decode cJ7_fill_d0a16 12 = .ok (.aload_n 0, 1) := by decide +kernel
theorem dJ7_fill_d0a16_13 : decode cJ7_fill_d0a16 13 = .ok (.iload_n 3, 1) := by decide +kernel
theorem dJ7_fill_d0a16_14 : decode cJ7_fill_d0a16 14 = .ok (.lload_n 1, 1) := by decide +kernel
theorem dJ7_fill_d0a16_15 : decode cJ7_fill_d0a16 15 = .ok (.lastore, 1) := by decide +kernel
theorem dJ7_fill_d0a16_16 : decode cJ7_fill_d0a16 16 = .ok (.iinc 3 1, 3) := by decide +kernel
theorem dJ7_fill_d0a16_19 : decode cJ7_fill_d0a16 19 = .ok (.goto (-13), 3) := by decide +kernel
theorem dJ7_fill_d0a16_22 : decode cJ7_fill_d0a16 22 = .ok (.return_, 1) := by decide +kernel
theorem dJ7_fill_53178_0 : decode cJ7_fill_53178 0 = .ok (.iconst 0, 1) := by decide +kernel
theorem dJ7_fill_53178_1 : decode cJ7_fill_53178 1 = .ok (.istore_n 2, 1) := by decide +kernel
theorem dJ7_fill_53178_2 : decode cJ7_fill_53178 2 = .ok (.aload_n 0, 1) := by decide +kernel
theorem dJ7_fill_53178_3 : decode cJ7_fill_53178 3 = .ok (.arraylength, 1) := by decide +kernel
theorem dJ7_fill_53178_4 : decode cJ7_fill_53178 4 = .ok (.istore_n 3, 1) := by decide +kernel
theorem dJ7_fill_53178_5 : decode cJ7_fill_53178 5 = .ok (.iload_n 2, 1) := by decide +kernel
theorem dJ7_fill_53178_6 : decode cJ7_fill_53178 6 = .ok (.iload_n 3, 1) := by decide +kernel
theorem dJ7_fill_53178_7 : decode cJ7_fill_53178 7 = .ok (.if_icmp .ge 13, 3) := by decide +kernel
theorem dJ7_fill_53178_10 : decode cJ7_fill_53178 10 = .ok (.aload_n 0, 1) := by decide +kernel
theorem dJ7_fill_53178_11 : decode cJ7_fill_53178 11 = .ok (.iload_n 2, 1) := by decide +kernel
theorem dJ7_fill_53178_12 : decode cJ7_fill_53178 12 = .ok (.iload_n 1, 1) := by decide +kernel
theorem dJ7_fill_53178_13 : decode cJ7_fill_53178 13 = .ok (.iastore, 1) := by decide +kernel
theorem dJ7_fill_53178_14 : decode cJ7_fill_53178 14 = .ok (.iinc 2 1, 3) := by decide +kernel
theorem dJ7_fill_53178_17 : decode cJ7_fill_53178 17 = .ok (.goto (-12), 3) := by decide +kernel
theorem dJ7_fill_53178_20 : decode cJ7_fill_53178 20 = .ok (.return_, 1) := by decide +kernel
theorem dJ6_bitCount_0f7a4_0 : decode cJ6_bitCount_0f7a4 0 = .ok (.iload_n 0, 1) := by decide +kernel
theorem dJ6_bitCount_0f7a4_1 : decode cJ6_bitCount_0f7a4 1 = .ok (.iload_n 0, 1) := by decide +kernel
theorem dJ6_bitCount_0f7a4_2 : decode cJ6_bitCount_0f7a4 2 = .ok (.iconst 1, 1) := by decide +kernel
theorem dJ6_bitCount_0f7a4_3 : decode cJ6_bitCount_0f7a4 3 = .ok (.iushr, 1) := by decide +kernel
theorem dJ6_bitCount_0f7a4_4 : decode cJ6_bitCount_0f7a4 4 = .ok (.ldc_w 265, 3) := by decide +kernel
theorem dJ6_bitCount_0f7a4_7 : decode cJ6_bitCount_0f7a4 7 = .ok (.iand, 1) := by decide +kernel
theorem dJ6_bitCount_0f7a4_8 : decode cJ6_bitCount_0f7a4 8 = .ok (.isub, 1) := by decide +kernel
theorem dJ6_bitCount_0f7a4_9 : decode cJ6_bitCount_0f7a4 9 = .ok (.istore_n 0, 1) := by decide +kernel
theorem dJ6_bitCount_0f7a4_10 : decode cJ6_bitCount_0f7a4 10 = .ok (.iload_n 0, 1) := by decide +kernel
theorem dJ6_bitCount_0f7a4_11 : decode cJ6_bitCount_0f7a4 11 = .ok (.ldc_w 266, 3) := by decide +kernel
theorem dJ6_bitCount_0f7a4_14 : decode cJ6_bitCount_0f7a4 14 = .ok (.iand, 1) := by decide +kernel
theorem dJ6_bitCount_0f7a4_15 : decode cJ6_bitCount_0f7a4 15 = .ok (.iload_n 0, 1) := by decide +kernel
theorem dJ6_bitCount_0f7a4_16 : decode cJ6_bitCount_0f7a4 16 = .ok (.iconst 2, 1) := by decide +kernel
theorem dJ6_bitCount_0f7a4_17 : decode cJ6_bitCount_0f7a4 17 = .ok (.iushr, 1) := by decide +kernel
theorem dJ6_bitCount_0f7a4_18 : decode cJ6_bitCount_0f7a4 18 = .ok (.ldc_w 266, 3) := by decide +kernel
theorem dJ6_bitCount_0f7a4_21 : decode cJ6_bitCount_0f7a4 21 = .ok (.iand, 1) := by decide +kernel
theorem dJ6_bitCount_0f7a4_22 : decode cJ6_bitCount_0f7a4 22 = .ok (.iadd, 1) := by decide +kernel
theorem dJ6_bitCount_0f7a4_23 : decode cJ6_bitCount_0f7a4 23 = .ok (.istore_n 0, 1) := by decide +kernel
theorem dJ6_bitCount_0f7a4_24 : decode cJ6_bitCount_0f7a4 24 = .ok (.iload_n 0, 1) := by decide +kernel
theorem dJ6_bitCount_0f7a4_25 : decode cJ6_bitCount_0f7a4 25 = .ok (.iload_n 0, 1) := by decide +kernel
theorem dJ6_bitCount_0f7a4_26 : decode cJ6_bitCount_0f7a4 26 = .ok (.iconst 4, 1) := by decide +kernel
theorem dJ6_bitCount_0f7a4_27 : decode cJ6_bitCount_0f7a4 27 = .ok (.iushr, 1) := by decide +kernel
theorem dJ6_bitCount_0f7a4_28 : decode cJ6_bitCount_0f7a4 28 = .ok (.iadd, 1) := by decide +kernel
theorem dJ6_bitCount_0f7a4_29 : decode cJ6_bitCount_0f7a4 29 = .ok (.ldc_w 267, 3) := by decide +kernel
theorem dJ6_bitCount_0f7a4_32 : decode cJ6_bitCount_0f7a4 32 = .ok (.iand, 1) := by decide +kernel
theorem dJ6_bitCount_0f7a4_33 : decode cJ6_bitCount_0f7a4 33 = .ok (.istore_n 0, 1) := by decide +kernel
theorem dJ6_bitCount_0f7a4_34 : decode cJ6_bitCount_0f7a4 34 = .ok (.iload_n 0, 1) := by decide +kernel
theorem dJ6_bitCount_0f7a4_35 : decode cJ6_bitCount_0f7a4 35 = .ok (.iload_n 0, 1) := by decide +kernel
theorem dJ6_bitCount_0f7a4_36 : decode cJ6_bitCount_0f7a4 36 = .ok (.bipush 8, 2) := by decide +kernel
theorem dJ6_bitCount_0f7a4_38 : decode cJ6_bitCount_0f7a4 38 = .ok (.iushr, 1) := by decide +kernel
theorem dJ6_bitCount_0f7a4_39 : decode cJ6_bitCount_0f7a4 39 = .ok (.iadd, 1) := by decide +kernel
theorem dJ6_bitCount_0f7a4_40 : decode cJ6_bitCount_0f7a4 40 = .ok (.istore_n 0, 1) := by decide +kernel
theorem dJ6_bitCount_0f7a4_41 : decode cJ6_bitCount_0f7a4 41 = .ok (.iload_n 0, 1) := by decide +kernel
theorem dJ6_bitCount_0f7a4_42 : decode cJ6_bitCount_0f7a4 42 = .ok (.iload_n 0, 1) := by decide +kernel
theorem dJ6_bitCount_0f7a4_43 : decode cJ6_bitCount_0f7a4 43 = .ok (.bipush 16, 2) := by decide +kernel
theorem dJ6_bitCount_0f7a4_45 : decode cJ6_bitCount_0f7a4 45 = .ok (.iushr, 1) := by decide +kernel
theorem dJ6_bitCount_0f7a4_46 : decode cJ6_bitCount_0f7a4 46 = .ok (.iadd, 1) := by decide +kernel
theorem dJ6_bitCount_0f7a4_47 : decode cJ6_bitCount_0f7a4 47 = .ok (.istore_n 0, 1) := by decide +kernel
theorem dJ6_bitCount_0f7a4_48 : decode cJ6_bitCount_0f7a4 48 = .ok (.iload_n 0, 1) := by decide +kernel
theorem dJ6_bitCount_0f7a4_49 : decode cJ6_bitCount_0f7a4 49 = .ok (.bipush 63, 2) := by decide +kernel
theorem dJ6_bitCount_0f7a4_51 : decode cJ6_bitCount_0f7a4 51 = .ok (.iand, 1) := by decide +kernel
theorem dJ6_bitCount_0f7a4_52 : decode cJ6_bitCount_0f7a4 52 = .ok (.ireturn, 1) := by decide +kernel
theorem dJ9_max_7cf53_0 : decode cJ9_max_7cf53 0 = .ok (.iload_n 0, 1) := by decide +kernel
theorem dJ9_max_7cf53_1 : decode cJ9_max_7cf53 1 = .ok (.iload_n 1, 1) := by decide +kernel
theorem dJ9_max_7cf53_2 : decode cJ9_max_7cf53 2 = .ok (.if_icmp .lt 7, 3) := by decide +kernel
theorem dJ9_max_7cf53_5 : decode cJ9_max_7cf53 5 = .ok (.iload_n 0, 1) := by decide +kernel
theorem dJ9_max_7cf53_6 : decode cJ9_max_7cf53 6 = .ok (.goto 4, 3) := by decide +kernel
theorem dJ9_max_7cf53_9 : decode cJ9_max_7cf53 9 = .ok (.iload_n 1, 1) := by decide +kernel
theorem dJ9_max_7cf53_10 : decode cJ9_max_7cf53 10 = .ok (.ireturn, 1) := by decide +kernel
theorem dJ9_min_7cf53_0 : decode cJ9_min_7cf53 0 = .ok (.iload_n 0, 1) := by decide +kernel
theorem dJ9_min_7cf53_1 : decode cJ9_min_7cf53 1 = .ok (.iload_n 1, 1) := by decide +kernel
theorem dJ9_min_7cf53_2 : decode cJ9_min_7cf53 2 = .ok (.if_icmp .gt 7, 3) := by decide +kernel
theorem dJ9_min_7cf53_5 : decode cJ9_min_7cf53 5 = .ok (.iload_n 0, 1) := by decide +kernel
theorem dJ9_min_7cf53_6 : decode cJ9_min_7cf53 6 = .ok (.goto 4, 3) := by decide +kernel
theorem dJ9_min_7cf53_9 : decode cJ9_min_7cf53 9 = .ok (.iload_n 1, 1) := by decide +kernel
theorem dJ9_min_7cf53_10 : decode cJ9_min_7cf53 10 = .ok (.ireturn, 1) := by decide +kernel
theorem dJ9_min_f86c9_0 : decode cJ9_min_f86c9 0 = .ok (.lload_n 0, 1) := by decide +kernel
theorem dJ9_min_f86c9_1 : decode cJ9_min_f86c9 1 = .ok (.lload_n 2, 1) := by decide +kernel
theorem dJ9_min_f86c9_2 : decode cJ9_min_f86c9 2 = .ok (.lcmp, 1) := by decide +kernel
theorem dJ9_min_f86c9_3 : decode cJ9_min_f86c9 3 = .ok (.ifCond .gt 7, 3) := by decide +kernel
theorem dJ9_min_f86c9_6 : decode cJ9_min_f86c9 6 = .ok (.lload_n 0, 1) := by decide +kernel
theorem dJ9_min_f86c9_7 : decode cJ9_min_f86c9 7 = .ok (.goto 4, 3) := by decide +kernel
theorem dJ9_min_f86c9_10 : decode cJ9_min_f86c9 10 = .ok (.lload_n 2, 1) := by decide +kernel
theorem dJ9_min_f86c9_11 : decode cJ9_min_f86c9 11 = .ok (.lreturn, 1) := by decide +kernel
theorem dJ0_length_8abf5_0 : decode cJ0_length_8abf5 0 = .ok (.aload_n 0, 1) := by decide +kernel
theorem dJ0_length_8abf5_1 : decode cJ0_length_8abf5 1 = .ok (.getfield 9, 3) := by decide +kernel
theorem dJ0_length_8abf5_4 : decode cJ0_length_8abf5 4 = .ok (.arraylength, 1) := by decide +kernel
theorem dJ0_length_8abf5_5 : decode cJ0_length_8abf5 5 = .ok (.aload_n 0, 1) := by decide +kernel
theorem dJ0_length_8abf5_6 : decode cJ0_length_8abf5 6 = .ok (.invokevirtual 335, 3) := by decide +kernel
theorem dJ0_length_8abf5_9 : decode cJ0_length_8abf5 9 = .ok (.ishr, 1) := by decide +kernel
theorem dJ0_length_8abf5_10 : decode cJ0_length_8abf5 10 = .ok (.ireturn, 1) := by decide +kernel
theorem dJ0_indexOf_0f7a4_0 : decode cJ0_indexOf_0f7a4 0 = .ok (.aload_n 0, 1) := by decide +kernel
theorem dJ0_indexOf_0f7a4_1 : decode cJ0_indexOf_0f7a4 1 = .ok (.iload_n 1, 1) := by decide +kernel
theorem dJ0_indexOf_0f7a4_2 : decode cJ0_indexOf_0f7a4 2 = .ok (.iconst 0, 1) := by decide +kernel
theorem dJ0_indexOf_0f7a4_3 : decode cJ0_indexOf_0f7a4 3 = .ok (.invokevirtual 633, 3) := by decide +kernel
theorem dJ0_indexOf_0f7a4_6 : decode cJ0_indexOf_0f7a4 6 = .ok (.ireturn, 1) := by decide +kernel
theorem dJ0_indexOf_7cf53_0 : decode cJ0_indexOf_7cf53 0 = .ok (.aload_n 0, 1) := by decide +kernel
theorem dJ0_indexOf_7cf53_1 : decode cJ0_indexOf_7cf53 1 = .ok (.invokevirtual 492, 3) := by decide +kernel
theorem dJ0_indexOf_7cf53_4 : decode cJ0_indexOf_7cf53 4 = .ok (.ifCond .eq 19, 3) := by decide +kernel
theorem dJ0_indexOf_7cf53_7 : decode cJ0_indexOf_7cf53 7 = .ok (.aload_n 0, 1) := by decide +kernel
theorem dJ0_indexOf_7cf53_8 : decode cJ0_indexOf_7cf53 8 = .ok (.getfield 9, 3) := by decide +kernel
theorem dJ0_indexOf_7cf53_11 : decode cJ0_indexOf_7cf53 11 = .ok (.iload_n 1, 1) := by decide +kernel
theorem dJ0_indexOf_7cf53_12 : decode cJ0_indexOf_7cf53 12 = .ok (.iload_n 2, 1) := by decide +kernel
theorem dJ0_indexOf_7cf53_13 : decode cJ0_indexOf_7cf53 13 = .ok (.aload_n 0, 1) := by decide +kernel
theorem dJ0_indexOf_7cf53_14 : decode cJ0_indexOf_7cf53 14 = .ok (.invokevirtual 505, 3) := by decide +kernel
theorem dJ0_indexOf_7cf53_17 : decode cJ0_indexOf_7cf53 17 = .ok (.invokestatic 637, 3) := by decide +kernel
theorem dJ0_indexOf_7cf53_20 : decode cJ0_indexOf_7cf53 20 = .ok (.goto 16, 3) := by decide +kernel
theorem dJ0_indexOf_7cf53_23 : decode cJ0_indexOf_7cf53 23 = .ok (.aload_n 0, 1) := by decide +kernel
theorem dJ0_indexOf_7cf53_24 : decode cJ0_indexOf_7cf53 24 = .ok (.getfield 9, 3) := by decide +kernel
theorem dJ0_indexOf_7cf53_27 : decode cJ0_indexOf_7cf53 27 = .ok (.iload_n 1, 1) := by decide +kernel
theorem dJ0_indexOf_7cf53_28 : decode cJ0_indexOf_7cf53 28 = .ok (.iload_n 2, 1) := by decide +kernel
theorem dJ0_indexOf_7cf53_29 : decode cJ0_indexOf_7cf53 29 = .ok (.aload_n 0, 1) := by decide +kernel
theorem dJ0_indexOf_7cf53_30 : decode cJ0_indexOf_7cf53 30 = .ok (.invokevirtual 505, 3) := by decide +kernel
theorem dJ0_indexOf_7cf53_33 : decode cJ0_indexOf_7cf53 33 = .ok (.invokestatic 640, 3) := by decide +kernel
theorem dJ0_indexOf_7cf53_36 : decode cJ0_indexOf_7cf53 36 = .ok (.ireturn, 1) := by decide +kernel
theorem dJ0_coder_7d493_0 : decode cJ0_coder_7d493 0 = .ok (.getstatic 38, 3) := by decide +kernel
theorem dJ0_coder_7d493_3 : decode cJ0_coder_7d493 3 = .ok (.ifCond .eq 10, 3) := by decide +kernel
theorem dJ0_coder_7d493_6 : decode cJ0_coder_7d493 6 = .ok (.aload_n 0, 1) := by decide +kernel
theorem dJ0_coder_7d493_7 : decode cJ0_coder_7d493 7 = .ok (.getfield 15, 3) := by decide +kernel
theorem dJ0_coder_7d493_10 : decode cJ0_coder_7d493 10 = .ok (.goto 4, 3) := by decide +kernel
theorem dJ0_coder_7d493_13 : decode cJ0_coder_7d493 13 = .ok (.iconst 1, 1) := by decide +kernel
theorem dJ0_coder_7d493_14 : decode cJ0_coder_7d493 14 = .ok (.ireturn, 1) := by decide +kernel
theorem dJ0_isLatin1_aae02_0 : decode cJ0_isLatin1_aae02 0 = .ok (.getstatic 38, 3) := by decide +kernel
theorem dJ0_isLatin1_aae02_3 : decode cJ0_isLatin1_aae02 3 = .ok (.ifCond .eq 14, 3) := by decide +kernel
theorem dJ0_isLatin1_aae02_6 : decode cJ0_isLatin1_aae02 6 = .ok (.aload_n 0, 1) := by decide +kernel
theorem dJ0_isLatin1_aae02_7 : decode cJ0_isLatin1_aae02 7 = .ok (.getfield 15, 3) := by decide +kernel
theorem dJ0_isLatin1_aae02_10 : decode cJ0_isLatin1_aae02 10 = .ok (.ifCond .ne 7, 3) := by decide +kernel
theorem dJ0_isLatin1_aae02_13 : decode cJ0_isLatin1_aae02 13 = .ok (.iconst 1, 1) := by decide +kernel
theorem dJ0_isLatin1_aae02_14 : decode cJ0_isLatin1_aae02 14 = .ok (.goto 4, 3) := by decide +kernel
theorem dJ0_isLatin1_aae02_17 : decode cJ0_isLatin1_aae02 17 = .ok (.iconst 0, 1) := by decide +kernel
theorem dJ0_isLatin1_aae02_18 : decode cJ0_isLatin1_aae02 18 = .ok (.ireturn, 1) := by decide +kernel
theorem dJ0_checkBoundsBeginEnd_23922_0 : decode cJ0_checkBoundsBeginEnd_23922 0 = .ok (.iload_n 0, 1) := by decide +kernel
theorem dJ0_checkBoundsBeginEnd_23922_1 : decode cJ0_checkBoundsBeginEnd_23922 1 = .ok (.iload_n 1, 1) := by decide +kernel
theorem dJ0_checkBoundsBeginEnd_23922_2 : decode cJ0_checkBoundsBeginEnd_23922 2 = .ok (.iload_n 2, 1) := by decide +kernel
theorem dJ0_checkBoundsBeginEnd_23922_3 : decode cJ0_checkBoundsBeginEnd_23922 3 = .ok (.getstatic 1053, 3) := by decide +kernel
theorem dJ0_checkBoundsBeginEnd_23922_6 : decode cJ0_checkBoundsBeginEnd_23922 6 = .ok (.invokestatic 1062, 3) := by decide +kernel
theorem dJ0_checkBoundsBeginEnd_23922_9 : decode cJ0_checkBoundsBeginEnd_23922 9 = .ok (.pop, 1) := by decide +kernel
theorem dJ0_checkBoundsBeginEnd_23922_10 : decode cJ0_checkBoundsBeginEnd_23922 10 = .ok (.return_, 1) := by decide +kernel
theorem dJ1_canEncode_9a6ad_0 : decode cJ1_canEncode_9a6ad 0 = .ok (.iload_n 0, 1) := by decide +kernel
theorem dJ1_canEncode_9a6ad_1 : decode cJ1_canEncode_9a6ad 1 = .ok (.ifCond .lt 14, 3) := by decide +kernel
theorem dJ1_canEncode_9a6ad_4 : decode cJ1_canEncode_9a6ad 4 = .ok (.iload_n 0, 1) := by decide +kernel
theorem dJ1_canEncode_9a6ad_5 : decode cJ1_canEncode_9a6ad 5 = .ok (.sipush 255, 3) := by decide +kernel
theorem dJ1_canEncode_9a6ad_8 : decode cJ1_canEncode_9a6ad 8 = .ok (.if_icmp .gt 7, 3) := by decide +kernel
theorem dJ1_canEncode_9a6ad_11 : decode cJ1_canEncode_9a6ad 11 = .ok (.iconst 1, 1) := by decide +kernel
theorem dJ1_canEncode_9a6ad_12 : decode cJ1_canEncode_9a6ad 12 = .ok (.goto 4, 3) := by decide +kernel
theorem dJ1_canEncode_9a6ad_15 : decode cJ1_canEncode_9a6ad 15 = .ok (.iconst 0, 1) := by decide +kernel
theorem dJ1_canEncode_9a6ad_16 : decode cJ1_canEncode_9a6ad 16 = .ok (.ireturn, 1) := by decide +kernel
theorem dJ1_indexOf_4cfef_0 : decode cJ1_indexOf_4cfef 0 = .ok (.iload_n 1, 1) := by decide +kernel
theorem dJ1_indexOf_4cfef_1 : decode cJ1_indexOf_4cfef 1 = .ok (.invokestatic 88, 3) := by decide +kernel
theorem dJ1_indexOf_4cfef_4 : decode cJ1_indexOf_4cfef 4 = .ok (.ifCond .ne 5, 3) := by decide +kernel
theorem dJ1_indexOf_4cfef_7 : decode cJ1_indexOf_4cfef 7 = .ok (.iconst (-1), 1) := by decide +kernel
theorem dJ1_indexOf_4cfef_8 : decode cJ1_indexOf_4cfef 8 = .ok (.ireturn, 1) := by decide +kernel
theorem dJ1_indexOf_4cfef_9 : decode cJ1_indexOf_4cfef 9 = .ok (.iload_n 2, 1) := by decide +kernel
theorem dJ1_indexOf_4cfef_10 : decode cJ1_indexOf_4cfef 10 = .ok (.iconst 0, 1) := by decide +kernel
theorem dJ1_indexOf_4cfef_11 : decode cJ1_indexOf_4cfef 11 = .ok (.invokestatic 92, 3) := by decide +kernel
theorem dJ1_indexOf_4cfef_14 : decode cJ1_indexOf_4cfef 14 = .ok (.istore_n 2, 1) := by decide +kernel
theorem dJ1_indexOf_4cfef_15 : decode cJ1_indexOf_4cfef 15 = .ok (.iload_n 3, 1) := by decide +kernel
theorem dJ1_indexOf_4cfef_16 : decode cJ1_indexOf_4cfef 16 = .ok (.aload_n 0, 1) := by decide +kernel
theorem dJ1_indexOf_4cfef_17 : decode cJ1_indexOf_4cfef 17 = .ok (.arraylength, 1) := by decide +kernel
theorem dJ1_indexOf_4cfef_18 : decode cJ1_indexOf_4cfef 18 = .ok (.invokestatic 38, 3) := by decide +kernel
theorem dJ1_indexOf_4cfef_21 : decode cJ1_indexOf_4cfef 21 = .ok (.istore_n 3, 1) := by decide +kernel
theorem dJ1_indexOf_4cfef_22 : decode cJ1_indexOf_4cfef 22 = .ok (.iload_n 2, 1) := by decide +kernel
theorem dJ1_indexOf_4cfef_23 : decode cJ1_indexOf_4cfef 23 = .ok (.iload_n 3, 1) := by decide +kernel
theorem dJ1_indexOf_4cfef_24 : decode cJ1_indexOf_4cfef 24 = .ok (.if_icmp .lt 5, 3) := by decide +kernel
theorem dJ1_indexOf_4cfef_27 : decode cJ1_indexOf_4cfef 27 = .ok (.iconst (-1), 1) := by decide +kernel
theorem dJ1_indexOf_4cfef_28 : decode cJ1_indexOf_4cfef 28 = .ok (.ireturn, 1) := by decide +kernel
theorem dJ1_indexOf_4cfef_29 : decode cJ1_indexOf_4cfef 29 = .ok (.aload_n 0, 1) := by decide +kernel
theorem dJ1_indexOf_4cfef_30 : decode cJ1_indexOf_4cfef 30 = .ok (.iload_n 1, 1) := by decide +kernel
theorem dJ1_indexOf_4cfef_31 : decode cJ1_indexOf_4cfef 31 = .ok (.iload_n 2, 1) := by decide +kernel
theorem dJ1_indexOf_4cfef_32 : decode cJ1_indexOf_4cfef 32 = .ok (.iload_n 3, 1) := by decide +kernel
theorem dJ1_indexOf_4cfef_33 : decode cJ1_indexOf_4cfef 33 = .ok (.invokestatic 95, 3) := by decide +kernel
theorem dJ1_indexOf_4cfef_36 : decode cJ1_indexOf_4cfef 36 = .ok (.ireturn, 1) := by decide +kernel
theorem dJ1_indexOfChar_4cfef_0 : decode cJ1_indexOfChar_4cfef 0 = .ok (.iload_n 1, 1) := by decide +kernel
theorem dJ1_indexOfChar_4cfef_1 : decode cJ1_indexOfChar_4cfef 1 = .ok (.i2b, 1) := by decide +kernel
theorem dJ1_indexOfChar_4cfef_2 : decode cJ1_indexOfChar_4cfef 2 = .ok (.istore 4, 2) := by decide +kernel
theorem dJ1_indexOfChar_4cfef_4 : decode cJ1_indexOfChar_4cfef 4 = .ok (.iload_n 2, 1) := by decide +kernel
theorem dJ1_indexOfChar_4cfef_5 : decode cJ1_indexOfChar_4cfef 5 = .ok (.istore 5, 2) := by decide +kernel
theorem dJ1_indexOfChar_4cfef_7 : decode cJ1_indexOfChar_4cfef 7 = .ok (.iload 5, 2) := by decide +kernel
theorem dJ1_indexOfChar_4cfef_9 : decode cJ1_indexOfChar_4cfef 9 = .ok (.iload_n 3, 1) := by decide +kernel
theorem dJ1_indexOfChar_4cfef_10 : decode cJ1_indexOfChar_4cfef 10 = .ok (.if_icmp .ge 21, 3) := by decide +kernel
theorem dJ1_indexOfChar_4cfef_13 : decode cJ1_indexOfChar_4cfef 13 = .ok (.aload_n 0, 1) := by decide +kernel
theorem dJ1_indexOfChar_4cfef_14 : decode cJ1_indexOfChar_4cfef 14 = .ok (.iload 5, 2) := by decide +kernel
theorem dJ1_indexOfChar_4cfef_16 : decode cJ1_indexOfChar_4cfef 16 = .ok (.baload, 1) := by decide +kernel
theorem dJ1_indexOfChar_4cfef_17 : decode cJ1_indexOfChar_4cfef 17 = .ok (.iload 4, 2) := by decide +kernel
theorem dJ1_indexOfChar_4cfef_19 : decode cJ1_indexOfChar_4cfef 19 = .ok (.if_icmp .ne 6, 3) := by decide +kernel
theorem dJ1_indexOfChar_4cfef_22 : decode cJ1_indexOfChar_4cfef 22 = .ok (.iload 5, 2) := by decide +kernel
theorem dJ1_indexOfChar_4cfef_24 : decode cJ1_indexOfChar_4cfef 24 = .ok (.ireturn, 1) := by decide +kernel
theorem dJ1_indexOfChar_4cfef_25 : decode cJ1_indexOfChar_4cfef 25 = .ok (.iinc 5 1, 3) := by decide +kernel
theorem dJ1_indexOfChar_4cfef_28 : decode cJ1_indexOfChar_4cfef 28 = .ok (.goto (-21), 3) := by decide +kernel
theorem dJ1_indexOfChar_4cfef_31 : decode cJ1_indexOfChar_4cfef 31 = .ok (.iconst (-1), 1) := by decide +kernel
theorem dJ1_indexOfChar_4cfef_32 : decode cJ1_indexOfChar_4cfef 32 = .ok (.ireturn, 1) := by decide +kernel
