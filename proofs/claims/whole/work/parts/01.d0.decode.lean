theorem dX0_init_0 : decode cX0_init 0 = .ok (.aload_n 0, 1) := by decide +kernel
theorem dX0_init_1 : decode cX0_init 1 = .ok (.invokespecial 3, 3) := by decide +kernel
theorem dX0_init_4 : decode cX0_init 4 = .ok (.aload_n 0, 1) := by decide +kernel
theorem dX0_init_5 : decode cX0_init 5 = .ok (.bipush 20, 2) := by decide +kernel
theorem dX0_init_7 : decode cX0_init 7 = .ok (.newarray .int, 2) := by decide +kernel
theorem dX0_init_9 : decode cX0_init 9 = .ok (.putfield 9, 3) := by decide +kernel
theorem dX0_init_12 : decode cX0_init 12 = .ok (.aload_n 0, 1) := by decide +kernel
theorem dX0_init_13 : decode cX0_init 13 = .ok (.bipush 20, 2) := by decide +kernel
theorem dX0_init_15 : decode cX0_init 15 = .ok (.newarray .int, 2) := by decide +kernel
theorem dX0_init_17 : decode cX0_init 17 = .ok (.putfield 15, 3) := by decide +kernel
theorem dX0_init_20 : decode cX0_init 20 = .ok (.aload_n 0, 1) := by decide +kernel
theorem dX0_init_21 : decode cX0_init 21 = .ok (.bipush 20, 2) := by decide +kernel
theorem dX0_init_23 : decode cX0_init 23 = .ok (.newarray .boolean, 2) := by decide +kernel
theorem dX0_init_25 : decode cX0_init 25 = .ok (.putfield 18, 3) := by decide +kernel
theorem dX0_init_28 : decode cX0_init 28 = .ok (.aload_n 0, 1) := by decide +kernel
theorem dX0_init_29 : decode cX0_init 29 = .ok (.bipush 20, 2) := by decide +kernel
theorem dX0_init_31 : decode cX0_init 31 = .ok (.newarray .int, 2) := by decide +kernel
theorem dX0_init_33 : decode cX0_init 33 = .ok (.putfield 22, 3) := by decide +kernel
theorem dX0_init_36 : decode cX0_init 36 = .ok (.aload_n 0, 1) := by decide +kernel
theorem dX0_init_37 : decode cX0_init 37 = .ok (.bipush 6, 2) := by decide +kernel
theorem dX0_init_39 : decode cX0_init 39 = .ok (.newarray .int, 2) := by decide +kernel
theorem dX0_init_41 : decode cX0_init 41 = .ok (.putfield 25, 3) := by decide +kernel
theorem dX0_init_44 : decode cX0_init 44 = .ok (.aload_n 0, 1) := by decide +kernel
theorem dX0_init_45 : decode cX0_init 45 = .ok (.bipush 6, 2) := by decide +kernel
theorem dX0_init_47 : decode cX0_init 47 = .ok (.newarray .int, 2) := by decide +kernel
theorem dX0_init_49 : decode cX0_init 49 = .ok (.putfield 28, 3) := by decide +kernel
theorem dX0_init_52 : decode cX0_init 52 = .ok (.aload_n 0, 1) := by decide +kernel
theorem dX0_init_53 : decode cX0_init 53 = .ok (.bipush 6, 2) := by decide +kernel
theorem dX0_init_55 : decode cX0_init 55 = .ok (.newarray .int, 2) := by decide +kernel
theorem dX0_init_57 : decode cX0_init 57 = .ok (.putfield 31, 3) := by decide +kernel
theorem dX0_init_60 : decode cX0_init 60 = .ok (.aload_n 0, 1) := by decide +kernel
theorem dX0_init_61 : decode cX0_init 61 = .ok (.bipush 6, 2) := by decide +kernel
theorem dX0_init_63 : decode cX0_init 63 = .ok (.newarray .int, 2) := by decide +kernel
theorem dX0_init_65 : decode cX0_init 65 = .ok (.putfield 34, 3) := by decide +kernel
theorem dX0_init_68 : decode cX0_init 68 = .ok (.aload_n 0, 1) := by decide +kernel
theorem dX0_init_69 : decode cX0_init 69 = .ok (.bipush (-4), 2) := by decide +kernel
theorem dX0_init_71 : decode cX0_init 71 = .ok (.putfield 37, 3) := by decide +kernel
theorem dX0_init_74 : decode cX0_init 74 = .ok (.return_, 1) := by decide +kernel
theorem dX0_anew_0 : decode cX0_anew 0 = .ok (.aload_n 0, 1) := by decide +kernel
theorem dX0_anew_1 : decode cX0_anew 1 = .ok (.iconst 0, 1) := by decide +kernel
theorem dX0_anew_2 : decode cX0_anew 2 = .ok (.putfield 41, 3) := by decide +kernel
theorem dX0_anew_5 : decode cX0_anew 5 = .ok (.aload_n 0, 1) := by decide +kernel
theorem dX0_anew_6 : decode cX0_anew 6 = .ok (.bipush (-4), 2) := by decide +kernel
theorem dX0_anew_8 : decode cX0_anew 8 = .ok (.putfield 37, 3) := by decide +kernel
theorem dX0_anew_11 : decode cX0_anew 11 = .ok (.iconst 0, 1) := by decide +kernel
theorem dX0_anew_12 : decode cX0_anew 12 = .ok (.istore_n 2, 1) := by decide +kernel
theorem dX0_anew_13 : decode cX0_anew 13 = .ok (.iload_n 2, 1) := by decide +kernel
theorem dX0_anew_14 : decode cX0_anew 14 = .ok (.bipush 6, 2) := by decide +kernel
theorem dX0_anew_16 : decode cX0_anew 16 = .ok (.if_icmp .ge 42, 3) := by decide +kernel
theorem dX0_anew_19 : decode cX0_anew 19 = .ok (.aload_n 0, 1) := by decide +kernel
theorem dX0_anew_20 : decode cX0_anew 20 = .ok (.getfield 28, 3) := by decide +kernel
theorem dX0_anew_23 : decode cX0_anew 23 = .ok (.iload_n 2, 1) := by decide +kernel
theorem dX0_anew_24 : decode cX0_anew 24 = .ok (.iconst 0, 1) := by decide +kernel
theorem dX0_anew_25 : decode cX0_anew 25 = .ok (.iastore, 1) := by decide +kernel
theorem dX0_anew_26 : decode cX0_anew 26 = .ok (.aload_n 0, 1) := by decide +kernel
theorem dX0_anew_27 : decode cX0_anew 27 = .ok (.getfield 31, 3) := by decide +kernel
theorem dX0_anew_30 : decode cX0_anew 30 = .ok (.iload_n 2, 1) := by decide +kernel
theorem dX0_anew_31 : decode cX0_anew 31 = .ok (.iconst 0, 1) := by decide +kernel
theorem dX0_anew_32 : decode cX0_anew 32 = .ok (.iastore, 1) := by decide +kernel
theorem dX0_anew_33 : decode cX0_anew 33 = .ok (.aload_n 0, 1) := by decide +kernel
theorem dX0_anew_34 : decode cX0_anew 34 = .ok (.getfield 34, 3) := by decide +kernel
theorem dX0_anew_37 : decode cX0_anew 37 = .ok (.iload_n 2, 1) := by decide +kernel
theorem dX0_anew_38 : decode cX0_anew 38 = .ok (.iconst 0, 1) := by decide +kernel
theorem dX0_anew_39 : decode cX0_anew 39 = .ok (.iastore, 1) := by decide +kernel
theorem dX0_anew_40 : decode cX0_anew 40 = .ok (.aload_n 0, 1) := by decide +kernel
theorem dX0_anew_41 : decode cX0_anew 41 = .ok (.getfield 25, 3) := by decide +kernel
theorem dX0_anew_44 : decode cX0_anew 44 = .ok (.iload_n 2, 1) := by decide +kernel
theorem dX0_anew_45 : decode cX0_anew 45 = .ok (.aload_n 1, 1) := by decide +kernel
theorem dX0_anew_46 : decode cX0_anew 46 = .ok (.getfield 44, 3) := by decide +kernel
theorem dX0_anew_49 : decode cX0_anew 49 = .ok (.iload_n 2, 1) := by decide +kernel
theorem dX0_anew_50 : decode cX0_anew 50 = .ok (.iaload, 1) := by decide +kernel
theorem dX0_anew_51 : decode cX0_anew 51 = .ok (.iastore, 1) := by decide +kernel
theorem dX0_anew_52 : decode cX0_anew 52 = .ok (.iinc 2 1, 3) := by decide +kernel
theorem dX0_anew_55 : decode cX0_anew 55 = .ok (.goto (-42), 3) := by decide +kernel
theorem dX0_anew_58 : decode cX0_anew 58 = .ok (.iconst 0, 1) := by decide +kernel
theorem dX0_anew_59 : decode cX0_anew 59 = .ok (.istore_n 2, 1) := by decide +kernel
theorem dX0_anew_60 : decode cX0_anew 60 = .ok (.iload_n 2, 1) := by decide +kernel
theorem dX0_anew_61 : decode cX0_anew 61 = .ok (.iconst 2, 1) := by decide +kernel
theorem dX0_anew_62 : decode cX0_anew 62 = .ok (.aload_n 1, 1) := by decide +kernel
theorem dX0_anew_63 : decode cX0_anew 63 = .ok (.getfield 49, 3) := by decide +kernel
theorem dX0_anew_66 : decode cX0_anew 66 = .ok (.imul, 1) := by decide +kernel
theorem dX0_anew_67 : decode cX0_anew 67 = .ok (.if_icmp .ge 79, 3) := by decide +kernel
theorem dX0_anew_70 : decode cX0_anew 70 = .ok (.aload_n 1, 1) := by decide +kernel
theorem dX0_anew_71 : decode cX0_anew 71 = .ok (.iload_n 2, 1) := by decide +kernel
theorem dX0_anew_72 : decode cX0_anew 72 = .ok (.invokevirtual 52, 3) := by decide +kernel
theorem dX0_anew_75 : decode cX0_anew 75 = .ok (.istore_n 3, 1) := by decide +kernel
theorem dX0_anew_76 : decode cX0_anew 76 = .ok (.aload_n 0, 1) := by decide +kernel
theorem dX0_anew_77 : decode cX0_anew 77 = .ok (.getfield 22, 3) := by decide +kernel
theorem dX0_anew_80 : decode cX0_anew 80 = .ok (.iload_n 2, 1) := by decide +kernel
theorem dX0_anew_81 : decode cX0_anew 81 = .ok (.aload_n 1, 1) := by decide +kernel
theorem dX0_anew_82 : decode cX0_anew 82 = .ok (.iload_n 2, 1) := by decide +kernel
theorem dX0_anew_83 : decode cX0_anew 83 = .ok (.iconst 2, 1) := by decide +kernel
theorem dX0_anew_84 : decode cX0_anew 84 = .ok (.idiv, 1) := by decide +kernel
theorem dX0_anew_85 : decode cX0_anew 85 = .ok (.invokevirtual 56, 3) := by decide +kernel
theorem dX0_anew_88 : decode cX0_anew 88 = .ok (.iastore, 1) := by decide +kernel
theorem dX0_anew_89 : decode cX0_anew 89 = .ok (.aload_n 0, 1) := by decide +kernel
theorem dX0_anew_90 : decode cX0_anew 90 = .ok (.getfield 9, 3) := by decide +kernel
theorem dX0_anew_93 : decode cX0_anew 93 = .ok (.iload_n 2, 1) := by decide +kernel
theorem dX0_anew_94 : decode cX0_anew 94 = .ok (.aload_n 1, 1) := by decide +kernel
theorem dX0_anew_95 : decode cX0_anew 95 = .ok (.iload_n 2, 1) := by decide +kernel
theorem dX0_anew_96 : decode cX0_anew 96 = .ok (.invokevirtual 59, 3) := by decide +kernel
theorem dX0_anew_99 : decode cX0_anew 99 = .ok (.iastore, 1) := by decide +kernel
theorem dX0_anew_100 : decode cX0_anew 100 = .ok (.aload_n 0, 1) := by decide +kernel
theorem dX0_anew_101 : decode cX0_anew 101 = .ok (.getfield 28, 3) := by decide +kernel
theorem dX0_anew_104 : decode cX0_anew 104 = .ok (.iload_n 3, 1) := by decide +kernel
theorem dX0_anew_105 : decode cX0_anew 105 = .ok (.dup2, 1) := by decide +kernel
theorem dX0_anew_106 : decode cX0_anew 106 = .ok (.iaload, 1) := by decide +kernel
theorem dX0_anew_107 : decode cX0_anew 107 = .ok (.iconst 1, 1) := by decide +kernel
theorem dX0_anew_108 : decode cX0_anew 108 = .ok (.iadd, 1) := by decide +kernel
theorem dX0_anew_109 : decode cX0_anew 109 = .ok (.iastore, 1) := by decide +kernel
theorem dX0_anew_110 : decode cX0_anew 110 = .ok (.aload_n 0, 1) := by decide +kernel
theorem dX0_anew_111 : decode cX0_anew 111 = .ok (.getfield 31, 3) := by decide +kernel
theorem dX0_anew_114 : decode cX0_anew 114 = .ok (.iload_n 3, 1) := by decide +kernel
theorem dX0_anew_115 : decode cX0_anew 115 = .ok (.dup2, 1) := by decide +kernel
theorem dX0_anew_116 : decode cX0_anew 116 = .ok (.iaload, 1) := by decide +kernel
theorem dX0_anew_117 : decode cX0_anew 117 = .ok (.aload_n 0, 1) := by decide +kernel
theorem dX0_anew_118 : decode cX0_anew 118 = .ok (.getfield 22, 3) := by decide +kernel
theorem dX0_anew_121 : decode cX0_anew 121 = .ok (.iload_n 2, 1) := by decide +kernel
theorem dX0_anew_122 : decode cX0_anew 122 = .ok (.iaload, 1) := by decide +kernel
theorem dX0_anew_123 : decode cX0_anew 123 = .ok (.iadd, 1) := by decide +kernel
theorem dX0_anew_124 : decode cX0_anew 124 = .ok (.iastore, 1) := by decide +kernel
theorem dX0_anew_125 : decode cX0_anew 125 = .ok (.aload_n 0, 1) := by decide +kernel
theorem dX0_anew_126 : decode cX0_anew 126 = .ok (.getfield 25, 3) := by decide +kernel
theorem dX0_anew_129 : decode cX0_anew 129 = .ok (.iload_n 3, 1) := by decide +kernel
theorem dX0_anew_130 : decode cX0_anew 130 = .ok (.dup2, 1) := by decide +kernel
theorem dX0_anew_131 : decode cX0_anew 131 = .ok (.iaload, 1) := by decide +kernel
theorem dX0_anew_132 : decode cX0_anew 132 = .ok (.aload_n 0, 1) := by decide +kernel
theorem dX0_anew_133 : decode cX0_anew 133 = .ok (.getfield 9, 3) := by decide +kernel
theorem dX0_anew_136 : decode cX0_anew 136 = .ok (.iload_n 2, 1) := by decide +kernel
theorem dX0_anew_137 : decode cX0_anew 137 = .ok (.iaload, 1) := by decide +kernel
theorem dX0_anew_138 : decode cX0_anew 138 = .ok (.iadd, 1) := by decide +kernel
theorem dX0_anew_139 : decode cX0_anew 139 = .ok (.iastore, 1) := by decide +kernel
theorem dX0_anew_140 : decode cX0_anew 140 = .ok (.iinc 2 1, 3) := by decide +kernel
theorem dX0_anew_143 : decode cX0_anew 143 = .ok (.goto (-83), 3) := by decide +kernel
theorem dX0_anew_146 : decode cX0_anew 146 = .ok (.return_, 1) := by decide +kernel
theorem dX0_canTurn_0 : decode cX0_canTurn 0 = .ok (.aload_n 1, 1) := by decide +kernel
theorem dX0_canTurn_1 : decode cX0_canTurn 1 = .ok (.getfield 62, 3) := by decide +kernel
theorem dX0_canTurn_4 : decode cX0_canTurn 4 = .ok (.iload_n 2, 1) := by decide +kernel
theorem dX0_canTurn_5 : decode cX0_canTurn 5 = .ok (.baload, 1) := by decide +kernel
theorem dX0_canTurn_6 : decode cX0_canTurn 6 = .ok (.ifCond .ne 16, 3) := by decide +kernel
theorem dX0_canTurn_9 : decode cX0_canTurn 9 = .ok (.aload_n 0, 1) := by decide +kernel
theorem dX0_canTurn_10 : decode cX0_canTurn 10 = .ok (.getfield 28, 3) := by decide +kernel
theorem dX0_canTurn_13 : decode cX0_canTurn 13 = .ok (.iload_n 2, 1) := by decide +kernel
theorem dX0_canTurn_14 : decode cX0_canTurn 14 = .ok (.iaload, 1) := by decide +kernel
theorem dX0_canTurn_15 : decode cX0_canTurn 15 = .ok (.ifCond .le 7, 3) := by decide +kernel
theorem dX0_canTurn_18 : decode cX0_canTurn 18 = .ok (.iconst 1, 1) := by decide +kernel
theorem dX0_canTurn_19 : decode cX0_canTurn 19 = .ok (.goto 4, 3) := by decide +kernel
theorem dX0_canTurn_22 : decode cX0_canTurn 22 = .ok (.iconst 0, 1) := by decide +kernel
theorem dX0_canTurn_23 : decode cX0_canTurn 23 = .ok (.ireturn, 1) := by decide +kernel
theorem dX0_isLoose_0 : decode cX0_isLoose 0 = .ok (.aload_n 0, 1) := by decide +kernel
theorem dX0_isLoose_1 : decode cX0_isLoose 1 = .ok (.aload_n 1, 1) := by decide +kernel
theorem dX0_isLoose_2 : decode cX0_isLoose 2 = .ok (.iload_n 2, 1) := by decide +kernel
theorem dX0_isLoose_3 : decode cX0_isLoose 3 = .ok (.invokevirtual 65, 3) := by decide +kernel
theorem dX0_isLoose_6 : decode cX0_isLoose 6 = .ok (.ifCond .eq 16, 3) := by decide +kernel
theorem dX0_isLoose_9 : decode cX0_isLoose 9 = .ok (.aload_n 0, 1) := by decide +kernel
theorem dX0_isLoose_10 : decode cX0_isLoose 10 = .ok (.getfield 25, 3) := by decide +kernel
theorem dX0_isLoose_13 : decode cX0_isLoose 13 = .ok (.iload_n 2, 1) := by decide +kernel
theorem dX0_isLoose_14 : decode cX0_isLoose 14 = .ok (.iaload, 1) := by decide +kernel
theorem dX0_isLoose_15 : decode cX0_isLoose 15 = .ok (.ifCond .eq 7, 3) := by decide +kernel
theorem dX0_isLoose_18 : decode cX0_isLoose 18 = .ok (.iconst 1, 1) := by decide +kernel
theorem dX0_isLoose_19 : decode cX0_isLoose 19 = .ok (.goto 4, 3) := by decide +kernel
theorem dX0_isLoose_22 : decode cX0_isLoose 22 = .ok (.iconst 0, 1) := by decide +kernel
theorem dX0_isLoose_23 : decode cX0_isLoose 23 = .ok (.ireturn, 1) := by decide +kernel
theorem dX0_loose_0 : decode cX0_loose 0 = .ok (.iconst 0, 1) := by decide +kernel
theorem dX0_loose_1 : decode cX0_loose 1 = .ok (.istore_n 2, 1) := by decide +kernel
theorem dX0_loose_2 : decode cX0_loose 2 = .ok (.iconst 0, 1) := by decide +kernel
theorem dX0_loose_3 : decode cX0_loose 3 = .ok (.istore_n 3, 1) := by decide +kernel
theorem dX0_loose_4 : decode cX0_loose 4 = .ok (.iload_n 3, 1) := by decide +kernel
theorem dX0_loose_5 : decode cX0_loose 5 = .ok (.aload_n 1, 1) := by decide +kernel
theorem dX0_loose_6 : decode cX0_loose 6 = .ok (.getfield 69, 3) := by decide +kernel
theorem dX0_loose_9 : decode cX0_loose 9 = .ok (.if_icmp .ge 21, 3) := by decide +kernel
theorem dX0_loose_12 : decode cX0_loose 12 = .ok (.aload_n 0, 1) := by decide +kernel
theorem dX0_loose_13 : decode cX0_loose 13 = .ok (.aload_n 1, 1) := by decide +kernel
theorem dX0_loose_14 : decode cX0_loose 14 = .ok (.iload_n 3, 1) := by decide +kernel
theorem dX0_loose_15 : decode cX0_loose 15 = .ok (.invokevirtual 72, 3) := by decide +kernel
theorem dX0_loose_18 : decode cX0_loose 18 = .ok (.ifCond .eq 6, 3) := by decide +kernel
theorem dX0_loose_21 : decode cX0_loose 21 = .ok (.iinc 2 1, 3) := by decide +kernel
theorem dX0_loose_24 : decode cX0_loose 24 = .ok (.iinc 3 1, 3) := by decide +kernel
theorem dX0_loose_27 : decode cX0_loose 27 = .ok (.goto (-23), 3) := by decide +kernel
theorem dX0_loose_30 : decode cX0_loose 30 = .ok (.iload_n 2, 1) := by decide +kernel
theorem dX0_loose_31 : decode cX0_loose 31 = .ok (.ireturn, 1) := by decide +kernel
theorem dX0_left_0 : decode cX0_left 0 = .ok (.iconst 0, 1) := by decide +kernel
theorem dX0_left_1 : decode cX0_left 1 = .ok (.istore_n 2, 1) := by decide +kernel
theorem dX0_left_2 : decode cX0_left 2 = .ok (.iconst 0, 1) := by decide +kernel
theorem dX0_left_3 : decode cX0_left 3 = .ok (.istore_n 3, 1) := by decide +kernel
theorem dX0_left_4 : decode cX0_left 4 = .ok (.iload_n 3, 1) := by decide +kernel
theorem dX0_left_5 : decode cX0_left 5 = .ok (.aload_n 1, 1) := by decide +kernel
theorem dX0_left_6 : decode cX0_left 6 = .ok (.getfield 69, 3) := by decide +kernel
theorem dX0_left_9 : decode cX0_left 9 = .ok (.if_icmp .ge 30, 3) := by decide +kernel
theorem dX0_left_12 : decode cX0_left 12 = .ok (.aload_n 0, 1) := by decide +kernel
theorem dX0_left_13 : decode cX0_left 13 = .ok (.aload_n 1, 1) := by decide +kernel
theorem dX0_left_14 : decode cX0_left 14 = .ok (.iload_n 3, 1) := by decide +kernel
theorem dX0_left_15 : decode cX0_left 15 = .ok (.invokevirtual 65, 3) := by decide +kernel
theorem dX0_left_18 : decode cX0_left 18 = .ok (.ifCond .eq 15, 3) := by decide +kernel
theorem dX0_left_21 : decode cX0_left 21 = .ok (.iload_n 2, 1) := by decide +kernel
theorem dX0_left_22 : decode cX0_left 22 = .ok (.aload_n 0, 1) := by decide +kernel
theorem dX0_left_23 : decode cX0_left 23 = .ok (.getfield 25, 3) := by decide +kernel
theorem dX0_left_26 : decode cX0_left 26 = .ok (.iload_n 3, 1) := by decide +kernel
theorem dX0_left_27 : decode cX0_left 27 = .ok (.iaload, 1) := by decide +kernel
theorem dX0_left_28 : decode cX0_left 28 = .ok (.invokestatic 75, 3) := by decide +kernel
theorem dX0_left_31 : decode cX0_left 31 = .ok (.iadd, 1) := by decide +kernel
theorem dX0_left_32 : decode cX0_left 32 = .ok (.istore_n 2, 1) := by decide +kernel
theorem dX0_left_33 : decode cX0_left 33 = .ok (.iinc 3 1, 3) := by decide +kernel
theorem dX0_left_36 : decode cX0_left 36 = .ok (.goto (-32), 3) := by decide +kernel
theorem dX0_left_39 : decode cX0_left 39 = .ok (.iload_n 2, 1) := by decide +kernel
theorem dX0_left_40 : decode cX0_left 40 = .ok (.ireturn, 1) := by decide +kernel
theorem dX0_bare_0 : decode cX0_bare 0 = .ok (.iconst 0, 1) := by decide +kernel
theorem dX0_bare_1 : decode cX0_bare 1 = .ok (.istore_n 2, 1) := by decide +kernel
theorem dX0_bare_2 : decode cX0_bare 2 = .ok (.iconst 0, 1) := by decide +kernel
theorem dX0_bare_3 : decode cX0_bare 3 = .ok (.istore_n 3, 1) := by decide +kernel
theorem dX0_bare_4 : decode cX0_bare 4 = .ok (.iload_n 3, 1) := by decide +kernel
theorem dX0_bare_5 : decode cX0_bare 5 = .ok (.aload_n 1, 1) := by decide +kernel
theorem dX0_bare_6 : decode cX0_bare 6 = .ok (.getfield 69, 3) := by decide +kernel
theorem dX0_bare_9 : decode cX0_bare 9 = .ok (.if_icmp .ge 21, 3) := by decide +kernel
theorem dX0_bare_12 : decode cX0_bare 12 = .ok (.aload_n 0, 1) := by decide +kernel
theorem dX0_bare_13 : decode cX0_bare 13 = .ok (.getfield 28, 3) := by decide +kernel
theorem dX0_bare_16 : decode cX0_bare 16 = .ok (.iload_n 3, 1) := by decide +kernel
theorem dX0_bare_17 : decode cX0_bare 17 = .ok (.iaload, 1) := by decide +kernel
theorem dX0_bare_18 : decode cX0_bare 18 = .ok (.ifCond .ne 6, 3) := by decide +kernel
theorem dX0_bare_21 : decode cX0_bare 21 = .ok (.iinc 2 1, 3) := by decide +kernel
theorem dX0_bare_24 : decode cX0_bare 24 = .ok (.iinc 3 1, 3) := by decide +kernel
theorem dX0_bare_27 : decode cX0_bare 27 = .ok (.goto (-23), 3) := by decide +kernel
theorem dX0_bare_30 : decode cX0_bare 30 = .ok (.iload_n 2, 1) := by decide +kernel
theorem dX0_bare_31 : decode cX0_bare 31 = .ok (.ireturn, 1) := by decide +kernel
theorem dX0_chosen_0 : decode cX0_chosen 0 = .ok (.iload_n 2, 1) := by decide +kernel
theorem dX0_chosen_1 : decode cX0_chosen 1 = .ok (.ifCond .ne 11, 3) := by decide +kernel
theorem dX0_chosen_4 : decode cX0_chosen 4 = .ok (.aload_n 0, 1) := by decide +kernel
theorem dX0_chosen_5 : decode cX0_chosen 5 = .ok (.aload_n 1, 1) := by decide +kernel
theorem dX0_chosen_6 : decode cX0_chosen 6 = .ok (.invokevirtual 80, 3) := by decide +kernel
theorem dX0_chosen_9 : decode cX0_chosen 9 = .ok (.goto 8, 3) := by decide +kernel
theorem dX0_chosen_12 : decode cX0_chosen 12 = .ok (.aload_n 0, 1) := by decide +kernel
theorem dX0_chosen_13 : decode cX0_chosen 13 = .ok (.aload_n 1, 1) := by decide +kernel
theorem dX0_chosen_14 : decode cX0_chosen 14 = .ok (.invokevirtual 84, 3) := by decide +kernel
theorem dX0_chosen_17 : decode cX0_chosen 17 = .ok (.ireturn, 1) := by decide +kernel
theorem dX0_worst_0 : decode cX0_worst 0 = .ok (.bipush (-4), 2) := by decide +kernel
theorem dX0_worst_2 : decode cX0_worst 2 = .ok (.istore_n 2, 1) := by decide +kernel
theorem dX0_worst_3 : decode cX0_worst 3 = .ok (.iconst 0, 1) := by decide +kernel
theorem dX0_worst_4 : decode cX0_worst 4 = .ok (.istore_n 3, 1) := by decide +kernel
theorem dX0_worst_5 : decode cX0_worst 5 = .ok (.iconst 0, 1) := by decide +kernel
theorem dX0_worst_6 : decode cX0_worst 6 = .ok (.istore 4, 2) := by decide +kernel
theorem dX0_worst_8 : decode cX0_worst 8 = .ok (.iload 4, 2) := by decide +kernel
theorem dX0_worst_10 : decode cX0_worst 10 = .ok (.aload_n 1, 1) := by decide +kernel
theorem dX0_worst_11 : decode cX0_worst 11 = .ok (.getfield 69, 3) := by decide +kernel
theorem dX0_worst_14 : decode cX0_worst 14 = .ok (.if_icmp .ge 47, 3) := by decide +kernel
theorem dX0_worst_17 : decode cX0_worst 17 = .ok (.aload_n 0, 1) := by decide +kernel
theorem dX0_worst_18 : decode cX0_worst 18 = .ok (.aload_n 1, 1) := by decide +kernel
theorem dX0_worst_19 : decode cX0_worst 19 = .ok (.iload 4, 2) := by decide +kernel
theorem dX0_worst_21 : decode cX0_worst 21 = .ok (.invokevirtual 65, 3) := by decide +kernel
theorem dX0_worst_24 : decode cX0_worst 24 = .ok (.ifCond .eq 31, 3) := by decide +kernel
theorem dX0_worst_27 : decode cX0_worst 27 = .ok (.aload_n 0, 1) := by decide +kernel
theorem dX0_worst_28 : decode cX0_worst 28 = .ok (.getfield 25, 3) := by decide +kernel
theorem dX0_worst_31 : decode cX0_worst 31 = .ok (.iload 4, 2) := by decide +kernel
theorem dX0_worst_33 : decode cX0_worst 33 = .ok (.iaload, 1) := by decide +kernel
theorem dX0_worst_34 : decode cX0_worst 34 = .ok (.invokestatic 75, 3) := by decide +kernel
theorem dX0_worst_37 : decode cX0_worst 37 = .ok (.iload_n 3, 1) := by decide +kernel
theorem dX0_worst_38 : decode cX0_worst 38 = .ok (.if_icmp .le 17, 3) := by decide +kernel
theorem dX0_worst_41 : decode cX0_worst 41 = .ok (.iload 4, 2) := by decide +kernel
theorem dX0_worst_43 : decode cX0_worst 43 = .ok (.istore_n 2, 1) := by decide +kernel
theorem dX0_worst_44 : decode cX0_worst 44 = .ok (.aload_n 0, 1) := by decide +kernel
theorem dX0_worst_45 : decode cX0_worst 45 = .ok (.getfield 25, 3) := by decide +kernel
theorem dX0_worst_48 : decode cX0_worst 48 = .ok (.iload 4, 2) := by decide +kernel
theorem dX0_worst_50 : decode cX0_worst 50 = .ok (.iaload, 1) := by decide +kernel
theorem dX0_worst_51 : decode cX0_worst 51 = .ok (.invokestatic 75, 3) := by decide +kernel
theorem dX0_worst_54 : decode cX0_worst 54 = .ok (.istore_n 3, 1) := by decide +kernel
theorem dX0_worst_55 : decode cX0_worst 55 = .ok (.iinc 4 1, 3) := by decide +kernel
theorem dX0_worst_58 : decode cX0_worst 58 = .ok (.goto (-50), 3) := by decide +kernel
theorem dX0_worst_61 : decode cX0_worst 61 = .ok (.iload_n 2, 1) := by decide +kernel
theorem dX0_worst_62 : decode cX0_worst 62 = .ok (.ireturn, 1) := by decide +kernel
theorem dX0_byTurns_0 : decode cX0_byTurns 0 = .ok (.aload_n 0, 1) := by decide +kernel
theorem dX0_byTurns_1 : decode cX0_byTurns 1 = .ok (.getfield 37, 3) := by decide +kernel
theorem dX0_byTurns_4 : decode cX0_byTurns 4 = .ok (.ifCond .ge 7, 3) := by decide +kernel
theorem dX0_byTurns_7 : decode cX0_byTurns 7 = .ok (.iconst 0, 1) := by decide +kernel
theorem dX0_byTurns_8 : decode cX0_byTurns 8 = .ok (.goto 9, 3) := by decide +kernel
theorem dX0_byTurns_11 : decode cX0_byTurns 11 = .ok (.aload_n 0, 1) := by decide +kernel
theorem dX0_byTurns_12 : decode cX0_byTurns 12 = .ok (.getfield 37, 3) := by decide +kernel
theorem dX0_byTurns_15 : decode cX0_byTurns 15 = .ok (.iconst 1, 1) := by decide +kernel
theorem dX0_byTurns_16 : decode cX0_byTurns 16 = .ok (.iadd, 1) := by decide +kernel
theorem dX0_byTurns_17 : decode cX0_byTurns 17 = .ok (.istore_n 2, 1) := by decide +kernel
theorem dX0_byTurns_18 : decode cX0_byTurns 18 = .ok (.iconst 0, 1) := by decide +kernel
theorem dX0_byTurns_19 : decode cX0_byTurns 19 = .ok (.istore_n 3, 1) := by decide +kernel
theorem dX0_byTurns_20 : decode cX0_byTurns 20 = .ok (.iload_n 3, 1) := by decide +kernel
theorem dX0_byTurns_21 : decode cX0_byTurns 21 = .ok (.aload_n 1, 1) := by decide +kernel
theorem dX0_byTurns_22 : decode cX0_byTurns 22 = .ok (.getfield 69, 3) := by decide +kernel
theorem dX0_byTurns_25 : decode cX0_byTurns 25 = .ok (.if_icmp .ge 32, 3) := by decide +kernel
theorem dX0_byTurns_28 : decode cX0_byTurns 28 = .ok (.iload_n 2, 1) := by decide +kernel
theorem dX0_byTurns_29 : decode cX0_byTurns 29 = .ok (.iload_n 3, 1) := by decide +kernel
theorem dX0_byTurns_30 : decode cX0_byTurns 30 = .ok (.iadd, 1) := by decide +kernel
theorem dX0_byTurns_31 : decode cX0_byTurns 31 = .ok (.aload_n 1, 1) := by decide +kernel
theorem dX0_byTurns_32 : decode cX0_byTurns 32 = .ok (.getfield 69, 3) := by decide +kernel
theorem dX0_byTurns_35 : decode cX0_byTurns 35 = .ok (.irem, 1) := by decide +kernel
theorem dX0_byTurns_36 : decode cX0_byTurns 36 = .ok (.istore 4, 2) := by decide +kernel
theorem dX0_byTurns_38 : decode cX0_byTurns 38 = .ok (.aload_n 0, 1) := by decide +kernel
theorem dX0_byTurns_39 : decode cX0_byTurns 39 = .ok (.aload_n 1, 1) := by decide +kernel
theorem dX0_byTurns_40 : decode cX0_byTurns 40 = .ok (.iload 4, 2) := by decide +kernel
theorem dX0_byTurns_42 : decode cX0_byTurns 42 = .ok (.invokevirtual 72, 3) := by decide +kernel
theorem dX0_byTurns_45 : decode cX0_byTurns 45 = .ok (.ifCond .eq 6, 3) := by decide +kernel
theorem dX0_byTurns_48 : decode cX0_byTurns 48 = .ok (.iload 4, 2) := by decide +kernel
theorem dX0_byTurns_50 : decode cX0_byTurns 50 = .ok (.ireturn, 1) := by decide +kernel
theorem dX0_byTurns_51 : decode cX0_byTurns 51 = .ok (.iinc 3 1, 3) := by decide +kernel
theorem dX0_byTurns_54 : decode cX0_byTurns 54 = .ok (.goto (-34), 3) := by decide +kernel
theorem dX0_byTurns_57 : decode cX0_byTurns 57 = .ok (.bipush (-4), 2) := by decide +kernel
theorem dX0_byTurns_59 : decode cX0_byTurns 59 = .ok (.ireturn, 1) := by decide +kernel
theorem dX0_ranked_0 : decode cX0_ranked 0 = .ok (.iconst 0, 1) := by decide +kernel
theorem dX0_ranked_1 : decode cX0_ranked 1 = .ok (.istore_n 3, 1) := by decide +kernel
theorem dX0_ranked_2 : decode cX0_ranked 2 = .ok (.iload_n 3, 1) := by decide +kernel
theorem dX0_ranked_3 : decode cX0_ranked 3 = .ok (.aload_n 1, 1) := by decide +kernel
theorem dX0_ranked_4 : decode cX0_ranked 4 = .ok (.getfield 69, 3) := by decide +kernel
theorem dX0_ranked_7 : decode cX0_ranked 7 = .ok (.if_icmp .ge 30, 3) := by decide +kernel
theorem dX0_ranked_10 : decode cX0_ranked 10 = .ok (.aload_n 0, 1) := by decide +kernel
theorem dX0_ranked_11 : decode cX0_ranked 11 = .ok (.aload_n 1, 1) := by decide +kernel
theorem dX0_ranked_12 : decode cX0_ranked 12 = .ok (.iload_n 3, 1) := by decide +kernel
theorem dX0_ranked_13 : decode cX0_ranked 13 = .ok (.invokevirtual 72, 3) := by decide +kernel
theorem dX0_ranked_16 : decode cX0_ranked 16 = .ok (.ifCond .eq 15, 3) := by decide +kernel
theorem dX0_ranked_19 : decode cX0_ranked 19 = .ok (.aload_n 0, 1) := by decide +kernel
theorem dX0_ranked_20 : decode cX0_ranked 20 = .ok (.aload_n 1, 1) := by decide +kernel
theorem dX0_ranked_21 : decode cX0_ranked 21 = .ok (.iload_n 3, 1) := by decide +kernel
theorem dX0_ranked_22 : decode cX0_ranked 22 = .ok (.invokevirtual 87, 3) := by decide +kernel
theorem dX0_ranked_25 : decode cX0_ranked 25 = .ok (.iload_n 2, 1) := by decide +kernel
theorem dX0_ranked_26 : decode cX0_ranked 26 = .ok (.if_icmp .ne 5, 3) := by decide +kernel
theorem dX0_ranked_29 : decode cX0_ranked 29 = .ok (.iload_n 3, 1) := by decide +kernel
theorem dX0_ranked_30 : decode cX0_ranked 30 = .ok (.ireturn, 1) := by decide +kernel
theorem dX0_ranked_31 : decode cX0_ranked 31 = .ok (.iinc 3 1, 3) := by decide +kernel
theorem dX0_ranked_34 : decode cX0_ranked 34 = .ok (.goto (-32), 3) := by decide +kernel
theorem dX0_ranked_37 : decode cX0_ranked 37 = .ok (.bipush (-4), 2) := by decide +kernel
theorem dX0_ranked_39 : decode cX0_ranked 39 = .ok (.ireturn, 1) := by decide +kernel
theorem dX0_looseAhead_0 : decode cX0_looseAhead 0 = .ok (.aload_n 0, 1) := by decide +kernel
theorem dX0_looseAhead_1 : decode cX0_looseAhead 1 = .ok (.getfield 25, 3) := by decide +kernel
theorem dX0_looseAhead_4 : decode cX0_looseAhead 4 = .ok (.iload_n 2, 1) := by decide +kernel
theorem dX0_looseAhead_5 : decode cX0_looseAhead 5 = .ok (.iaload, 1) := by decide +kernel
theorem dX0_looseAhead_6 : decode cX0_looseAhead 6 = .ok (.invokestatic 75, 3) := by decide +kernel
theorem dX0_looseAhead_9 : decode cX0_looseAhead 9 = .ok (.istore_n 3, 1) := by decide +kernel
theorem dX0_looseAhead_10 : decode cX0_looseAhead 10 = .ok (.iconst 0, 1) := by decide +kernel
theorem dX0_looseAhead_11 : decode cX0_looseAhead 11 = .ok (.istore 4, 2) := by decide +kernel
theorem dX0_looseAhead_13 : decode cX0_looseAhead 13 = .ok (.iconst 0, 1) := by decide +kernel
theorem dX0_looseAhead_14 : decode cX0_looseAhead 14 = .ok (.istore 5, 2) := by decide +kernel
theorem dX0_looseAhead_16 : decode cX0_looseAhead 16 = .ok (.iload 5, 2) := by decide +kernel
theorem dX0_looseAhead_18 : decode cX0_looseAhead 18 = .ok (.aload_n 1, 1) := by decide +kernel
theorem dX0_looseAhead_19 : decode cX0_looseAhead 19 = .ok (.getfield 69, 3) := by decide +kernel
theorem dX0_looseAhead_22 : decode cX0_looseAhead 22 = .ok (.if_icmp .ge 52, 3) := by decide +kernel
theorem dX0_looseAhead_25 : decode cX0_looseAhead 25 = .ok (.aload_n 0, 1) := by decide +kernel
theorem dX0_looseAhead_26 : decode cX0_looseAhead 26 = .ok (.getfield 25, 3) := by decide +kernel
theorem dX0_looseAhead_29 : decode cX0_looseAhead 29 = .ok (.iload 5, 2) := by decide +kernel
theorem dX0_looseAhead_31 : decode cX0_looseAhead 31 = .ok (.iaload, 1) := by decide +kernel
theorem dX0_looseAhead_32 : decode cX0_looseAhead 32 = .ok (.invokestatic 75, 3) := by decide +kernel
theorem dX0_looseAhead_35 : decode cX0_looseAhead 35 = .ok (.istore 6, 2) := by decide +kernel
theorem dX0_looseAhead_37 : decode cX0_looseAhead 37 = .ok (.aload_n 0, 1) := by decide +kernel
theorem dX0_looseAhead_38 : decode cX0_looseAhead 38 = .ok (.aload_n 1, 1) := by decide +kernel
theorem dX0_looseAhead_39 : decode cX0_looseAhead 39 = .ok (.iload 5, 2) := by decide +kernel
theorem dX0_looseAhead_41 : decode cX0_looseAhead 41 = .ok (.invokevirtual 72, 3) := by decide +kernel
theorem dX0_looseAhead_44 : decode cX0_looseAhead 44 = .ok (.ifCond .eq 24, 3) := by decide +kernel
theorem dX0_looseAhead_47 : decode cX0_looseAhead 47 = .ok (.iload 6, 2) := by decide +kernel
theorem dX0_looseAhead_49 : decode cX0_looseAhead 49 = .ok (.iload_n 3, 1) := by decide +kernel
theorem dX0_looseAhead_50 : decode cX0_looseAhead 50 = .ok (.if_icmp .gt 15, 3) := by decide +kernel
theorem dX0_looseAhead_53 : decode cX0_looseAhead 53 = .ok (.iload 6, 2) := by decide +kernel
theorem dX0_looseAhead_55 : decode cX0_looseAhead 55 = .ok (.iload_n 3, 1) := by decide +kernel
theorem dX0_looseAhead_56 : decode cX0_looseAhead 56 = .ok (.if_icmp .ne 12, 3) := by decide +kernel
theorem dX0_looseAhead_59 : decode cX0_looseAhead 59 = .ok (.iload 5, 2) := by decide +kernel
theorem dX0_looseAhead_61 : decode cX0_looseAhead 61 = .ok (.iload_n 2, 1) := by decide +kernel
theorem dX0_looseAhead_62 : decode cX0_looseAhead 62 = .ok (.if_icmp .ge 6, 3) := by decide +kernel
theorem dX0_looseAhead_65 : decode cX0_looseAhead 65 = .ok (.iinc 4 1, 3) := by decide +kernel
theorem dX0_looseAhead_68 : decode cX0_looseAhead 68 = .ok (.iinc 5 1, 3) := by decide +kernel
theorem dX0_looseAhead_71 : decode cX0_looseAhead 71 = .ok (.goto (-55), 3) := by decide +kernel
theorem dX0_looseAhead_74 : decode cX0_looseAhead 74 = .ok (.iload 4, 2) := by decide +kernel
theorem dX0_looseAhead_76 : decode cX0_looseAhead 76 = .ok (.ireturn, 1) := by decide +kernel
theorem dX0_shareOut_0 : decode cX0_shareOut 0 = .ok (.aload_n 0, 1) := by decide +kernel
theorem dX0_shareOut_1 : decode cX0_shareOut 1 = .ok (.getfield 31, 3) := by decide +kernel
theorem dX0_shareOut_4 : decode cX0_shareOut 4 = .ok (.iload_n 2, 1) := by decide +kernel
theorem dX0_shareOut_5 : decode cX0_shareOut 5 = .ok (.iaload, 1) := by decide +kernel
theorem dX0_shareOut_6 : decode cX0_shareOut 6 = .ok (.istore_n 3, 1) := by decide +kernel
theorem dX0_shareOut_7 : decode cX0_shareOut 7 = .ok (.iload_n 3, 1) := by decide +kernel
theorem dX0_shareOut_8 : decode cX0_shareOut 8 = .ok (.iconst 1, 1) := by decide +kernel
theorem dX0_shareOut_9 : decode cX0_shareOut 9 = .ok (.if_icmp .ge 4, 3) := by decide +kernel
theorem dX0_shareOut_12 : decode cX0_shareOut 12 = .ok (.return_, 1) := by decide +kernel
theorem dX0_shareOut_13 : decode cX0_shareOut 13 = .ok (.aload_n 0, 1) := by decide +kernel
theorem dX0_shareOut_14 : decode cX0_shareOut 14 = .ok (.getfield 25, 3) := by decide +kernel
theorem dX0_shareOut_17 : decode cX0_shareOut 17 = .ok (.iload_n 2, 1) := by decide +kernel
theorem dX0_shareOut_18 : decode cX0_shareOut 18 = .ok (.iaload, 1) := by decide +kernel
theorem dX0_shareOut_19 : decode cX0_shareOut 19 = .ok (.i2l, 1) := by decide +kernel
theorem dX0_shareOut_20 : decode cX0_shareOut 20 = .ok (.lneg, 1) := by decide +kernel
theorem dX0_shareOut_21 : decode cX0_shareOut 21 = .ok (.lstore 4, 2) := by decide +kernel
theorem dX0_shareOut_23 : decode cX0_shareOut 23 = .ok (.lload 4, 2) := by decide +kernel
theorem dX0_shareOut_25 : decode cX0_shareOut 25 = .ok (.l2i, 1) := by decide +kernel
theorem dX0_shareOut_26 : decode cX0_shareOut 26 = .ok (.istore 6, 2) := by decide +kernel
theorem dX0_shareOut_28 : decode cX0_shareOut 28 = .ok (.iconst 0, 1) := by decide +kernel
theorem dX0_shareOut_29 : decode cX0_shareOut 29 = .ok (.istore 7, 2) := by decide +kernel
theorem dX0_shareOut_31 : decode cX0_shareOut 31 = .ok (.iload 7, 2) := by decide +kernel
theorem dX0_shareOut_33 : decode cX0_shareOut 33 = .ok (.iconst 2, 1) := by decide +kernel
theorem dX0_shareOut_34 : decode cX0_shareOut 34 = .ok (.aload_n 1, 1) := by decide +kernel
theorem dX0_shareOut_35 : decode cX0_shareOut 35 = .ok (.getfield 49, 3) := by decide +kernel
theorem dX0_shareOut_38 : decode cX0_shareOut 38 = .ok (.imul, 1) := by decide +kernel
theorem dX0_shareOut_39 : decode cX0_shareOut 39 = .ok (.if_icmp .ge 61, 3) := by decide +kernel
theorem dX0_shareOut_42 : decode cX0_shareOut 42 = .ok (.aload_n 1, 1) := by decide +kernel
theorem dX0_shareOut_43 : decode cX0_shareOut 43 = .ok (.iload 7, 2) := by decide +kernel
theorem dX0_shareOut_45 : decode cX0_shareOut 45 = .ok (.invokevirtual 52, 3) := by decide +kernel
theorem dX0_shareOut_48 : decode cX0_shareOut 48 = .ok (.iload_n 2, 1) := by decide +kernel
theorem dX0_shareOut_49 : decode cX0_shareOut 49 = .ok (.if_icmp .ne 45, 3) := by decide +kernel
theorem dX0_shareOut_52 : decode cX0_shareOut 52 = .ok (.aload_n 0, 1) := by decide +kernel
theorem dX0_shareOut_53 : decode cX0_shareOut 53 = .ok (.getfield 15, 3) := by decide +kernel
theorem dX0_shareOut_56 : decode cX0_shareOut 56 = .ok (.iload 7, 2) := by decide +kernel
theorem dX0_shareOut_58 : decode cX0_shareOut 58 = .ok (.lload 4, 2) := by decide +kernel
theorem dX0_shareOut_60 : decode cX0_shareOut 60 = .ok (.aload_n 0, 1) := by decide +kernel
theorem dX0_shareOut_61 : decode cX0_shareOut 61 = .ok (.getfield 22, 3) := by decide +kernel
theorem dX0_shareOut_64 : decode cX0_shareOut 64 = .ok (.iload 7, 2) := by decide +kernel
theorem dX0_shareOut_66 : decode cX0_shareOut 66 = .ok (.iaload, 1) := by decide +kernel
theorem dX0_shareOut_67 : decode cX0_shareOut 67 = .ok (.i2l, 1) := by decide +kernel
theorem dX0_shareOut_68 : decode cX0_shareOut 68 = .ok (.lmul, 1) := by decide +kernel
theorem dX0_shareOut_69 : decode cX0_shareOut 69 = .ok (.iload_n 3, 1) := by decide +kernel
theorem dX0_shareOut_70 : decode cX0_shareOut 70 = .ok (.i2l, 1) := by decide +kernel
theorem dX0_shareOut_71 : decode cX0_shareOut 71 = .ok (.ldiv, 1) := by decide +kernel
theorem dX0_shareOut_72 : decode cX0_shareOut 72 = .ok (.l2i, 1) := by decide +kernel
theorem dX0_shareOut_73 : decode cX0_shareOut 73 = .ok (.iastore, 1) := by decide +kernel
theorem dX0_shareOut_74 : decode cX0_shareOut 74 = .ok (.aload_n 0, 1) := by decide +kernel
theorem dX0_shareOut_75 : decode cX0_shareOut 75 = .ok (.getfield 18, 3) := by decide +kernel
theorem dX0_shareOut_78 : decode cX0_shareOut 78 = .ok (.iload 7, 2) := by decide +kernel
theorem dX0_shareOut_80 : decode cX0_shareOut 80 = .ok (.iconst 0, 1) := by decide +kernel
theorem dX0_shareOut_81 : decode cX0_shareOut 81 = .ok (.bastore, 1) := by decide +kernel
theorem dX0_shareOut_82 : decode cX0_shareOut 82 = .ok (.iload 6, 2) := by decide +kernel
theorem dX0_shareOut_84 : decode cX0_shareOut 84 = .ok (.aload_n 0, 1) := by decide +kernel
theorem dX0_shareOut_85 : decode cX0_shareOut 85 = .ok (.getfield 15, 3) := by decide +kernel
theorem dX0_shareOut_88 : decode cX0_shareOut 88 = .ok (.iload 7, 2) := by decide +kernel
theorem dX0_shareOut_90 : decode cX0_shareOut 90 = .ok (.iaload, 1) := by decide +kernel
theorem dX0_shareOut_91 : decode cX0_shareOut 91 = .ok (.isub, 1) := by decide +kernel
theorem dX0_shareOut_92 : decode cX0_shareOut 92 = .ok (.istore 6, 2) := by decide +kernel
theorem dX0_shareOut_94 : decode cX0_shareOut 94 = .ok (.iinc 7 1, 3) := by decide +kernel
theorem dX0_shareOut_97 : decode cX0_shareOut 97 = .ok (.goto (-66), 3) := by decide +kernel
theorem dX0_shareOut_100 : decode cX0_shareOut 100 = .ok (.iload 6, 2) := by decide +kernel
theorem dX0_shareOut_102 : decode cX0_shareOut 102 = .ok (.ifCond .ge 7, 3) := by decide +kernel
theorem dX0_shareOut_105 : decode cX0_shareOut 105 = .ok (.iconst (-1), 1) := by decide +kernel
theorem dX0_shareOut_106 : decode cX0_shareOut 106 = .ok (.goto 4, 3) := by decide +kernel
theorem dX0_shareOut_109 : decode cX0_shareOut 109 = .ok (.iconst 1, 1) := by decide +kernel
theorem dX0_shareOut_110 : decode cX0_shareOut 110 = .ok (.istore 7, 2) := by decide +kernel
theorem dX0_shareOut_112 : decode cX0_shareOut 112 = .ok (.iconst 0, 1) := by decide +kernel
theorem dX0_shareOut_113 : decode cX0_shareOut 113 = .ok (.istore 8, 2) := by decide +kernel
theorem dX0_shareOut_115 : decode cX0_shareOut 115 = .ok (.iload 8, 2) := by decide +kernel
theorem dX0_shareOut_117 : decode cX0_shareOut 117 = .ok (.bipush 20, 2) := by decide +kernel
theorem dX0_shareOut_119 : decode cX0_shareOut 119 = .ok (.if_icmp .ge 57, 3) := by decide +kernel
theorem dX0_shareOut_122 : decode cX0_shareOut 122 = .ok (.iload 6, 2) := by decide +kernel
theorem dX0_shareOut_124 : decode cX0_shareOut 124 = .ok (.ifCond .eq 52, 3) := by decide +kernel
theorem dX0_shareOut_127 : decode cX0_shareOut 127 = .ok (.aload_n 0, 1) := by decide +kernel
theorem dX0_shareOut_128 : decode cX0_shareOut 128 = .ok (.aload_n 1, 1) := by decide +kernel
theorem dX0_shareOut_129 : decode cX0_shareOut 129 = .ok (.iload_n 2, 1) := by decide +kernel
theorem dX0_shareOut_130 : decode cX0_shareOut 130 = .ok (.invokevirtual 91, 3) := by decide +kernel
theorem dX0_shareOut_133 : decode cX0_shareOut 133 = .ok (.istore 9, 2) := by decide +kernel
theorem dX0_shareOut_135 : decode cX0_shareOut 135 = .ok (.iload 9, 2) := by decide +kernel
theorem dX0_shareOut_137 : decode cX0_shareOut 137 = .ok (.ifCond .ge 6, 3) := by decide +kernel
theorem dX0_shareOut_140 : decode cX0_shareOut 140 = .ok (.goto 36, 3) := by decide +kernel
theorem dX0_shareOut_143 : decode cX0_shareOut 143 = .ok (.aload_n 0, 1) := by decide +kernel
theorem dX0_shareOut_144 : decode cX0_shareOut 144 = .ok (.getfield 15, 3) := by decide +kernel
theorem dX0_shareOut_147 : decode cX0_shareOut 147 = .ok (.iload 9, 2) := by decide +kernel
theorem dX0_shareOut_149 : decode cX0_shareOut 149 = .ok (.dup2, 1) := by decide +kernel
theorem dX0_shareOut_150 : decode cX0_shareOut 150 = .ok (.iaload, 1) := by decide +kernel
theorem dX0_shareOut_151 : decode cX0_shareOut 151 = .ok (.iload 7, 2) := by decide +kernel
theorem dX0_shareOut_153 : decode cX0_shareOut 153 = .ok (.iadd, 1) := by decide +kernel
theorem dX0_shareOut_154 : decode cX0_shareOut 154 = .ok (.iastore, 1) := by decide +kernel
theorem dX0_shareOut_155 : decode cX0_shareOut 155 = .ok (.aload_n 0, 1) := by decide +kernel
theorem dX0_shareOut_156 : decode cX0_shareOut 156 = .ok (.getfield 18, 3) := by decide +kernel
theorem dX0_shareOut_159 : decode cX0_shareOut 159 = .ok (.iload 9, 2) := by decide +kernel
theorem dX0_shareOut_161 : decode cX0_shareOut 161 = .ok (.iconst 1, 1) := by decide +kernel
theorem dX0_shareOut_162 : decode cX0_shareOut 162 = .ok (.bastore, 1) := by decide +kernel
theorem dX0_shareOut_163 : decode cX0_shareOut 163 = .ok (.iload 6, 2) := by decide +kernel
theorem dX0_shareOut_165 : decode cX0_shareOut 165 = .ok (.iload 7, 2) := by decide +kernel
theorem dX0_shareOut_167 : decode cX0_shareOut 167 = .ok (.isub, 1) := by decide +kernel
theorem dX0_shareOut_168 : decode cX0_shareOut 168 = .ok (.istore 6, 2) := by decide +kernel
theorem dX0_shareOut_170 : decode cX0_shareOut 170 = .ok (.iinc 8 1, 3) := by decide +kernel
theorem dX0_shareOut_173 : decode cX0_shareOut 173 = .ok (.goto (-58), 3) := by decide +kernel
theorem dX0_shareOut_176 : decode cX0_shareOut 176 = .ok (.return_, 1) := by decide +kernel
theorem dX0_stiffestBare_0 : decode cX0_stiffestBare 0 = .ok (.bipush (-4), 2) := by decide +kernel
theorem dX0_stiffestBare_2 : decode cX0_stiffestBare 2 = .ok (.istore_n 3, 1) := by decide +kernel
theorem dX0_stiffestBare_3 : decode cX0_stiffestBare 3 = .ok (.iconst 0, 1) := by decide +kernel
theorem dX0_stiffestBare_4 : decode cX0_stiffestBare 4 = .ok (.istore 4, 2) := by decide +kernel
theorem dX0_stiffestBare_6 : decode cX0_stiffestBare 6 = .ok (.iconst 0, 1) := by decide +kernel
theorem dX0_stiffestBare_7 : decode cX0_stiffestBare 7 = .ok (.istore 5, 2) := by decide +kernel
theorem dX0_stiffestBare_9 : decode cX0_stiffestBare 9 = .ok (.iload 5, 2) := by decide +kernel
theorem dX0_stiffestBare_11 : decode cX0_stiffestBare 11 = .ok (.iconst 2, 1) := by decide +kernel
theorem dX0_stiffestBare_12 : decode cX0_stiffestBare 12 = .ok (.aload_n 1, 1) := by decide +kernel
theorem dX0_stiffestBare_13 : decode cX0_stiffestBare 13 = .ok (.getfield 49, 3) := by decide +kernel
theorem dX0_stiffestBare_16 : decode cX0_stiffestBare 16 = .ok (.imul, 1) := by decide +kernel
theorem dX0_stiffestBare_17 : decode cX0_stiffestBare 17 = .ok (.if_icmp .ge 53, 3) := by decide +kernel
theorem dX0_stiffestBare_20 : decode cX0_stiffestBare 20 = .ok (.aload_n 1, 1) := by decide +kernel
theorem dX0_stiffestBare_21 : decode cX0_stiffestBare 21 = .ok (.iload 5, 2) := by decide +kernel
theorem dX0_stiffestBare_23 : decode cX0_stiffestBare 23 = .ok (.invokevirtual 52, 3) := by decide +kernel
theorem dX0_stiffestBare_26 : decode cX0_stiffestBare 26 = .ok (.iload_n 2, 1) := by decide +kernel
theorem dX0_stiffestBare_27 : decode cX0_stiffestBare 27 = .ok (.if_icmp .ne 37, 3) := by decide +kernel
theorem dX0_stiffestBare_30 : decode cX0_stiffestBare 30 = .ok (.aload_n 0, 1) := by decide +kernel
theorem dX0_stiffestBare_31 : decode cX0_stiffestBare 31 = .ok (.getfield 18, 3) := by decide +kernel
theorem dX0_stiffestBare_34 : decode cX0_stiffestBare 34 = .ok (.iload 5, 2) := by decide +kernel
theorem dX0_stiffestBare_36 : decode cX0_stiffestBare 36 = .ok (.baload, 1) := by decide +kernel
theorem dX0_stiffestBare_37 : decode cX0_stiffestBare 37 = .ok (.ifCond .ne 27, 3) := by decide +kernel
theorem dX0_stiffestBare_40 : decode cX0_stiffestBare 40 = .ok (.aload_n 0, 1) := by decide +kernel
theorem dX0_stiffestBare_41 : decode cX0_stiffestBare 41 = .ok (.getfield 22, 3) := by decide +kernel
theorem dX0_stiffestBare_44 : decode cX0_stiffestBare 44 = .ok (.iload 5, 2) := by decide +kernel
theorem dX0_stiffestBare_46 : decode cX0_stiffestBare 46 = .ok (.iaload, 1) := by decide +kernel
theorem dX0_stiffestBare_47 : decode cX0_stiffestBare 47 = .ok (.iload 4, 2) := by decide +kernel
theorem dX0_stiffestBare_49 : decode cX0_stiffestBare 49 = .ok (.if_icmp .le 15, 3) := by decide +kernel
theorem dX0_stiffestBare_52 : decode cX0_stiffestBare 52 = .ok (.iload 5, 2) := by decide +kernel
theorem dX0_stiffestBare_54 : decode cX0_stiffestBare 54 = .ok (.istore_n 3, 1) := by decide +kernel
theorem dX0_stiffestBare_55 : decode cX0_stiffestBare 55 = .ok (.aload_n 0, 1) := by decide +kernel
theorem dX0_stiffestBare_56 : decode cX0_stiffestBare 56 = .ok (.getfield 22, 3) := by decide +kernel
theorem dX0_stiffestBare_59 : decode cX0_stiffestBare 59 = .ok (.iload 5, 2) := by decide +kernel
theorem dX0_stiffestBare_61 : decode cX0_stiffestBare 61 = .ok (.iaload, 1) := by decide +kernel
theorem dX0_stiffestBare_62 : decode cX0_stiffestBare 62 = .ok (.istore 4, 2) := by decide +kernel
theorem dX0_stiffestBare_64 : decode cX0_stiffestBare 64 = .ok (.iinc 5 1, 3) := by decide +kernel
theorem dX0_stiffestBare_67 : decode cX0_stiffestBare 67 = .ok (.goto (-58), 3) := by decide +kernel
theorem dX0_stiffestBare_70 : decode cX0_stiffestBare 70 = .ok (.iload_n 3, 1) := by decide +kernel
theorem dX0_stiffestBare_71 : decode cX0_stiffestBare 71 = .ok (.ireturn, 1) := by decide +kernel
theorem dX0_letGo_0 : decode cX0_letGo 0 = .ok (.aload_n 0, 1) := by decide +kernel
theorem dX0_letGo_1 : decode cX0_letGo 1 = .ok (.aload_n 1, 1) := by decide +kernel
theorem dX0_letGo_2 : decode cX0_letGo 2 = .ok (.iload_n 2, 1) := by decide +kernel
theorem dX0_letGo_3 : decode cX0_letGo 3 = .ok (.invokevirtual 94, 3) := by decide +kernel
theorem dX0_letGo_6 : decode cX0_letGo 6 = .ok (.iconst 0, 1) := by decide +kernel
theorem dX0_letGo_7 : decode cX0_letGo 7 = .ok (.istore_n 3, 1) := by decide +kernel
theorem dX0_letGo_8 : decode cX0_letGo 8 = .ok (.iload_n 3, 1) := by decide +kernel
theorem dX0_letGo_9 : decode cX0_letGo 9 = .ok (.iconst 2, 1) := by decide +kernel
theorem dX0_letGo_10 : decode cX0_letGo 10 = .ok (.aload_n 1, 1) := by decide +kernel
theorem dX0_letGo_11 : decode cX0_letGo 11 = .ok (.getfield 49, 3) := by decide +kernel
theorem dX0_letGo_14 : decode cX0_letGo 14 = .ok (.imul, 1) := by decide +kernel
theorem dX0_letGo_15 : decode cX0_letGo 15 = .ok (.if_icmp .ge 48, 3) := by decide +kernel
theorem dX0_letGo_18 : decode cX0_letGo 18 = .ok (.aload_n 1, 1) := by decide +kernel
theorem dX0_letGo_19 : decode cX0_letGo 19 = .ok (.iload_n 3, 1) := by decide +kernel
theorem dX0_letGo_20 : decode cX0_letGo 20 = .ok (.invokevirtual 52, 3) := by decide +kernel
theorem dX0_letGo_23 : decode cX0_letGo 23 = .ok (.iload_n 2, 1) := by decide +kernel
theorem dX0_letGo_24 : decode cX0_letGo 24 = .ok (.if_icmp .ne 33, 3) := by decide +kernel
theorem dX0_letGo_27 : decode cX0_letGo 27 = .ok (.aload_n 0, 1) := by decide +kernel
theorem dX0_letGo_28 : decode cX0_letGo 28 = .ok (.aload_n 1, 1) := by decide +kernel
theorem dX0_letGo_29 : decode cX0_letGo 29 = .ok (.iload_n 3, 1) := by decide +kernel
theorem dX0_letGo_30 : decode cX0_letGo 30 = .ok (.aload_n 0, 1) := by decide +kernel
theorem dX0_letGo_31 : decode cX0_letGo 31 = .ok (.getfield 15, 3) := by decide +kernel
theorem dX0_letGo_34 : decode cX0_letGo 34 = .ok (.iload_n 3, 1) := by decide +kernel
theorem dX0_letGo_35 : decode cX0_letGo 35 = .ok (.iaload, 1) := by decide +kernel
theorem dX0_letGo_36 : decode cX0_letGo 36 = .ok (.invokevirtual 98, 3) := by decide +kernel
theorem dX0_letGo_39 : decode cX0_letGo 39 = .ok (.aload_n 0, 1) := by decide +kernel
theorem dX0_letGo_40 : decode cX0_letGo 40 = .ok (.aload_n 1, 1) := by decide +kernel
theorem dX0_letGo_41 : decode cX0_letGo 41 = .ok (.aload_n 1, 1) := by decide +kernel
theorem dX0_letGo_42 : decode cX0_letGo 42 = .ok (.iload_n 3, 1) := by decide +kernel
theorem dX0_letGo_43 : decode cX0_letGo 43 = .ok (.invokevirtual 102, 3) := by decide +kernel
theorem dX0_letGo_46 : decode cX0_letGo 46 = .ok (.aload_n 0, 1) := by decide +kernel
theorem dX0_letGo_47 : decode cX0_letGo 47 = .ok (.getfield 15, 3) := by decide +kernel
theorem dX0_letGo_50 : decode cX0_letGo 50 = .ok (.iload_n 3, 1) := by decide +kernel
theorem dX0_letGo_51 : decode cX0_letGo 51 = .ok (.iaload, 1) := by decide +kernel
theorem dX0_letGo_52 : decode cX0_letGo 52 = .ok (.iconst 2, 1) := by decide +kernel
theorem dX0_letGo_53 : decode cX0_letGo 53 = .ok (.idiv, 1) := by decide +kernel
theorem dX0_letGo_54 : decode cX0_letGo 54 = .ok (.invokevirtual 98, 3) := by decide +kernel
theorem dX0_letGo_57 : decode cX0_letGo 57 = .ok (.iinc 3 1, 3) := by decide +kernel
theorem dX0_letGo_60 : decode cX0_letGo 60 = .ok (.goto (-52), 3) := by decide +kernel
theorem dX0_letGo_63 : decode cX0_letGo 63 = .ok (.aload_n 0, 1) := by decide +kernel
theorem dX0_letGo_64 : decode cX0_letGo 64 = .ok (.getfield 34, 3) := by decide +kernel
theorem dX0_letGo_67 : decode cX0_letGo 67 = .ok (.iload_n 2, 1) := by decide +kernel
theorem dX0_letGo_68 : decode cX0_letGo 68 = .ok (.dup2, 1) := by decide +kernel
theorem dX0_letGo_69 : decode cX0_letGo 69 = .ok (.iaload, 1) := by decide +kernel
theorem dX0_letGo_70 : decode cX0_letGo 70 = .ok (.iconst 1, 1) := by decide +kernel
theorem dX0_letGo_71 : decode cX0_letGo 71 = .ok (.iadd, 1) := by decide +kernel
theorem dX0_letGo_72 : decode cX0_letGo 72 = .ok (.iastore, 1) := by decide +kernel
theorem dX0_letGo_73 : decode cX0_letGo 73 = .ok (.aload_n 0, 1) := by decide +kernel
theorem dX0_letGo_74 : decode cX0_letGo 74 = .ok (.dup, 1) := by decide +kernel
theorem dX0_letGo_75 : decode cX0_letGo 75 = .ok (.getfield 41, 3) := by decide +kernel
theorem dX0_letGo_78 : decode cX0_letGo 78 = .ok (.iconst 1, 1) := by decide +kernel
theorem dX0_letGo_79 : decode cX0_letGo 79 = .ok (.iadd, 1) := by decide +kernel
theorem dX0_letGo_80 : decode cX0_letGo 80 = .ok (.putfield 41, 3) := by decide +kernel
theorem dX0_letGo_83 : decode cX0_letGo 83 = .ok (.aload_n 0, 1) := by decide +kernel
theorem dX0_letGo_84 : decode cX0_letGo 84 = .ok (.iload_n 2, 1) := by decide +kernel
theorem dX0_letGo_85 : decode cX0_letGo 85 = .ok (.putfield 37, 3) := by decide +kernel
theorem dX0_letGo_88 : decode cX0_letGo 88 = .ok (.return_, 1) := by decide +kernel
theorem dX0_comeTo_0 : decode cX0_comeTo 0 = .ok (.aload_n 0, 1) := by decide +kernel
theorem dX0_comeTo_1 : decode cX0_comeTo 1 = .ok (.getfield 9, 3) := by decide +kernel
theorem dX0_comeTo_4 : decode cX0_comeTo 4 = .ok (.iload_n 2, 1) := by decide +kernel
theorem dX0_comeTo_5 : decode cX0_comeTo 5 = .ok (.dup2, 1) := by decide +kernel
theorem dX0_comeTo_6 : decode cX0_comeTo 6 = .ok (.iaload, 1) := by decide +kernel
theorem dX0_comeTo_7 : decode cX0_comeTo 7 = .ok (.iload_n 3, 1) := by decide +kernel
theorem dX0_comeTo_8 : decode cX0_comeTo 8 = .ok (.iadd, 1) := by decide +kernel
theorem dX0_comeTo_9 : decode cX0_comeTo 9 = .ok (.iastore, 1) := by decide +kernel
theorem dX0_comeTo_10 : decode cX0_comeTo 10 = .ok (.aload_n 0, 1) := by decide +kernel
theorem dX0_comeTo_11 : decode cX0_comeTo 11 = .ok (.getfield 25, 3) := by decide +kernel
theorem dX0_comeTo_14 : decode cX0_comeTo 14 = .ok (.aload_n 1, 1) := by decide +kernel
theorem dX0_comeTo_15 : decode cX0_comeTo 15 = .ok (.iload_n 2, 1) := by decide +kernel
theorem dX0_comeTo_16 : decode cX0_comeTo 16 = .ok (.invokevirtual 52, 3) := by decide +kernel
theorem dX0_comeTo_19 : decode cX0_comeTo 19 = .ok (.dup2, 1) := by decide +kernel
theorem dX0_comeTo_20 : decode cX0_comeTo 20 = .ok (.iaload, 1) := by decide +kernel
theorem dX0_comeTo_21 : decode cX0_comeTo 21 = .ok (.iload_n 3, 1) := by decide +kernel
theorem dX0_comeTo_22 : decode cX0_comeTo 22 = .ok (.iadd, 1) := by decide +kernel
theorem dX0_comeTo_23 : decode cX0_comeTo 23 = .ok (.iastore, 1) := by decide +kernel
theorem dX0_comeTo_24 : decode cX0_comeTo 24 = .ok (.return_, 1) := by decide +kernel
theorem dX1_init_0 : decode cX1_init 0 = .ok (.aload_n 0, 1) := by decide +kernel
theorem dX1_init_1 : decode cX1_init 1 = .ok (.invokespecial 3, 3) := by decide +kernel
theorem dX1_init_4 : decode cX1_init 4 = .ok (.aload_n 0, 1) := by decide +kernel
theorem dX1_init_5 : decode cX1_init 5 = .ok (.iconst 4, 1) := by decide +kernel
theorem dX1_init_6 : decode cX1_init 6 = .ok (.iconst 5, 1) := by decide +kernel
theorem dX1_init_7 : decode cX1_init 7 = .ok (.multianewarray 9 2, 4) := by decide +kernel
theorem dX1_init_11 : decode cX1_init 11 = .ok (.putfield 11, 3) := by decide +kernel
theorem dX1_init_14 : decode cX1_init 14 = .ok (.aload_n 0, 1) := by decide +kernel
theorem dX1_init_15 : decode cX1_init 15 = .ok (.bipush 6, 2) := by decide +kernel
theorem dX1_init_17 : decode cX1_init 17 = .ok (.newarray .int, 2) := by decide +kernel
theorem dX1_init_19 : decode cX1_init 19 = .ok (.putfield 16, 3) := by decide +kernel
theorem dX1_init_22 : decode cX1_init 22 = .ok (.return_, 1) := by decide +kernel
theorem dX1_sure_0 : decode cX1_sure 0 = .ok (.aload_n 0, 1) := by decide +kernel
theorem dX1_sure_1 : decode cX1_sure 1 = .ok (.aload_n 1, 1) := by decide +kernel
theorem dX1_sure_2 : decode cX1_sure 2 = .ok (.invokevirtual 20, 3) := by decide +kernel
theorem dX1_sure_5 : decode cX1_sure 5 = .ok (.aload_n 0, 1) := by decide +kernel
theorem dX1_sure_6 : decode cX1_sure 6 = .ok (.getfield 11, 3) := by decide +kernel
theorem dX1_sure_9 : decode cX1_sure 9 = .ok (.aload_n 0, 1) := by decide +kernel
theorem dX1_sure_10 : decode cX1_sure 10 = .ok (.getfield 24, 3) := by decide +kernel
theorem dX1_sure_13 : decode cX1_sure 13 = .ok (.bipush (-4), 2) := by decide +kernel
theorem dX1_sure_15 : decode cX1_sure 15 = .ok (.iconst 0, 1) := by decide +kernel
theorem dX1_sure_16 : decode cX1_sure 16 = .ok (.iconst 0, 1) := by decide +kernel
theorem dX1_sure_17 : decode cX1_sure 17 = .ok (.invokestatic 28, 3) := by decide +kernel
theorem dX1_sure_20 : decode cX1_sure 20 = .ok (.lstore_n 3, 1) := by decide +kernel
theorem dX1_sure_21 : decode cX1_sure 21 = .ok (.aload_n 1, 1) := by decide +kernel
theorem dX1_sure_22 : decode cX1_sure 22 = .ok (.iload_n 2, 1) := by decide +kernel
theorem dX1_sure_23 : decode cX1_sure 23 = .ok (.invokevirtual 32, 3) := by decide +kernel
theorem dX1_sure_26 : decode cX1_sure 26 = .ok (.istore 5, 2) := by decide +kernel
theorem dX1_sure_28 : decode cX1_sure 28 = .ok (.lload_n 3, 1) := by decide +kernel
theorem dX1_sure_29 : decode cX1_sure 29 = .ok (.lconst 1, 1) := by decide +kernel
theorem dX1_sure_30 : decode cX1_sure 30 = .ok (.lcmp, 1) := by decide +kernel
theorem dX1_sure_31 : decode cX1_sure 31 = .ok (.ifCond .ge 6, 3) := by decide +kernel
theorem dX1_sure_34 : decode cX1_sure 34 = .ok (.iload 5, 2) := by decide +kernel
theorem dX1_sure_36 : decode cX1_sure 36 = .ok (.ireturn, 1) := by decide +kernel
theorem dX1_sure_37 : decode cX1_sure 37 = .ok (.aload_n 0, 1) := by decide +kernel
theorem dX1_sure_38 : decode cX1_sure 38 = .ok (.aload_n 1, 1) := by decide +kernel
theorem dX1_sure_39 : decode cX1_sure 39 = .ok (.iload_n 2, 1) := by decide +kernel
theorem dX1_sure_40 : decode cX1_sure 40 = .ok (.invokevirtual 38, 3) := by decide +kernel
theorem dX1_sure_43 : decode cX1_sure 43 = .ok (.invokevirtual 41, 3) := by decide +kernel
theorem dX1_sure_46 : decode cX1_sure 46 = .ok (.lstore 6, 2) := by decide +kernel
theorem dX1_sure_48 : decode cX1_sure 48 = .ok (.aload_n 0, 1) := by decide +kernel
theorem dX1_sure_49 : decode cX1_sure 49 = .ok (.aload_n 1, 1) := by decide +kernel
theorem dX1_sure_50 : decode cX1_sure 50 = .ok (.aload_n 1, 1) := by decide +kernel
theorem dX1_sure_51 : decode cX1_sure 51 = .ok (.iload_n 2, 1) := by decide +kernel
theorem dX1_sure_52 : decode cX1_sure 52 = .ok (.invokevirtual 45, 3) := by decide +kernel
theorem dX1_sure_55 : decode cX1_sure 55 = .ok (.invokevirtual 38, 3) := by decide +kernel
theorem dX1_sure_58 : decode cX1_sure 58 = .ok (.invokevirtual 41, 3) := by decide +kernel
theorem dX1_sure_61 : decode cX1_sure 61 = .ok (.lstore 8, 2) := by decide +kernel
theorem dX1_sure_63 : decode cX1_sure 63 = .ok (.iload 5, 2) := by decide +kernel
theorem dX1_sure_65 : decode cX1_sure 65 = .ok (.i2l, 1) := by decide +kernel
theorem dX1_sure_66 : decode cX1_sure 66 = .ok (.lload_n 3, 1) := by decide +kernel
theorem dX1_sure_67 : decode cX1_sure 67 = .ok (.lmul, 1) := by decide +kernel
theorem dX1_sure_68 : decode cX1_sure 68 = .ok (.aload_n 1, 1) := by decide +kernel
theorem dX1_sure_69 : decode cX1_sure 69 = .ok (.iload_n 2, 1) := by decide +kernel
theorem dX1_sure_70 : decode cX1_sure 70 = .ok (.iconst 2, 1) := by decide +kernel
theorem dX1_sure_71 : decode cX1_sure 71 = .ok (.idiv, 1) := by decide +kernel
theorem dX1_sure_72 : decode cX1_sure 72 = .ok (.invokevirtual 48, 3) := by decide +kernel
theorem dX1_sure_75 : decode cX1_sure 75 = .ok (.i2l, 1) := by decide +kernel
theorem dX1_sure_76 : decode cX1_sure 76 = .ok (.ldc2_w 51, 3) := by decide +kernel
theorem dX1_sure_79 : decode cX1_sure 79 = .ok (.lload 6, 2) := by decide +kernel
theorem dX1_sure_81 : decode cX1_sure 81 = .ok (.lmul, 1) := by decide +kernel
theorem dX1_sure_82 : decode cX1_sure 82 = .ok (.lload 8, 2) := by decide +kernel
theorem dX1_sure_84 : decode cX1_sure 84 = .ok (.ladd, 1) := by decide +kernel
theorem dX1_sure_85 : decode cX1_sure 85 = .ok (.lmul, 1) := by decide +kernel
theorem dX1_sure_86 : decode cX1_sure 86 = .ok (.ladd, 1) := by decide +kernel
theorem dX1_sure_87 : decode cX1_sure 87 = .ok (.lstore 10, 2) := by decide +kernel
theorem dX1_sure_89 : decode cX1_sure 89 = .ok (.lload 10, 2) := by decide +kernel
theorem dX1_sure_91 : decode cX1_sure 91 = .ok (.lload_n 3, 1) := by decide +kernel
theorem dX1_sure_92 : decode cX1_sure 92 = .ok (.invokestatic 53, 3) := by decide +kernel
theorem dX1_sure_95 : decode cX1_sure 95 = .ok (.l2i, 1) := by decide +kernel
theorem dX1_sure_96 : decode cX1_sure 96 = .ok (.ireturn, 1) := by decide +kernel
theorem dX1_write_0 : decode cX1_write 0 = .ok (.aload_n 0, 1) := by decide +kernel
theorem dX1_write_1 : decode cX1_write 1 = .ok (.aload_n 1, 1) := by decide +kernel
theorem dX1_write_2 : decode cX1_write 2 = .ok (.invokevirtual 59, 3) := by decide +kernel
theorem dX1_write_5 : decode cX1_write 5 = .ok (.iconst 0, 1) := by decide +kernel
theorem dX1_write_6 : decode cX1_write 6 = .ok (.istore_n 2, 1) := by decide +kernel
theorem dX1_write_7 : decode cX1_write 7 = .ok (.iload_n 2, 1) := by decide +kernel
theorem dX1_write_8 : decode cX1_write 8 = .ok (.iconst 2, 1) := by decide +kernel
theorem dX1_write_9 : decode cX1_write 9 = .ok (.aload_n 1, 1) := by decide +kernel
theorem dX1_write_10 : decode cX1_write 10 = .ok (.getfield 62, 3) := by decide +kernel
theorem dX1_write_13 : decode cX1_write 13 = .ok (.imul, 1) := by decide +kernel
theorem dX1_write_14 : decode cX1_write 14 = .ok (.if_icmp .ge 105, 3) := by decide +kernel
theorem dX1_write_17 : decode cX1_write 17 = .ok (.aload_n 0, 1) := by decide +kernel
theorem dX1_write_18 : decode cX1_write 18 = .ok (.getfield 16, 3) := by decide +kernel
theorem dX1_write_21 : decode cX1_write 21 = .ok (.aload_n 1, 1) := by decide +kernel
theorem dX1_write_22 : decode cX1_write 22 = .ok (.iload_n 2, 1) := by decide +kernel
theorem dX1_write_23 : decode cX1_write 23 = .ok (.invokevirtual 38, 3) := by decide +kernel
theorem dX1_write_26 : decode cX1_write 26 = .ok (.iaload, 1) := by decide +kernel
theorem dX1_write_27 : decode cX1_write 27 = .ok (.istore_n 3, 1) := by decide +kernel
theorem dX1_write_28 : decode cX1_write 28 = .ok (.iload_n 3, 1) := by decide +kernel
theorem dX1_write_29 : decode cX1_write 29 = .ok (.ifCond .ge 6, 3) := by decide +kernel
theorem dX1_write_32 : decode cX1_write 32 = .ok (.goto 81, 3) := by decide +kernel
theorem dX1_write_35 : decode cX1_write 35 = .ok (.aload_n 1, 1) := by decide +kernel
theorem dX1_write_36 : decode cX1_write 36 = .ok (.iload_n 2, 1) := by decide +kernel
theorem dX1_write_37 : decode cX1_write 37 = .ok (.iconst 2, 1) := by decide +kernel
theorem dX1_write_38 : decode cX1_write 38 = .ok (.idiv, 1) := by decide +kernel
theorem dX1_write_39 : decode cX1_write 39 = .ok (.invokevirtual 48, 3) := by decide +kernel
theorem dX1_write_42 : decode cX1_write 42 = .ok (.istore 4, 2) := by decide +kernel
theorem dX1_write_44 : decode cX1_write 44 = .ok (.aload_n 0, 1) := by decide +kernel
theorem dX1_write_45 : decode cX1_write 45 = .ok (.getfield 16, 3) := by decide +kernel
theorem dX1_write_48 : decode cX1_write 48 = .ok (.aload_n 1, 1) := by decide +kernel
theorem dX1_write_49 : decode cX1_write 49 = .ok (.aload_n 1, 1) := by decide +kernel
theorem dX1_write_50 : decode cX1_write 50 = .ok (.iload_n 2, 1) := by decide +kernel
theorem dX1_write_51 : decode cX1_write 51 = .ok (.invokevirtual 45, 3) := by decide +kernel
theorem dX1_write_54 : decode cX1_write 54 = .ok (.invokevirtual 38, 3) := by decide +kernel
theorem dX1_write_57 : decode cX1_write 57 = .ok (.iaload, 1) := by decide +kernel
theorem dX1_write_58 : decode cX1_write 58 = .ok (.istore 5, 2) := by decide +kernel
theorem dX1_write_60 : decode cX1_write 60 = .ok (.aload_n 0, 1) := by decide +kernel
theorem dX1_write_61 : decode cX1_write 61 = .ok (.getfield 11, 3) := by decide +kernel
theorem dX1_write_64 : decode cX1_write 64 = .ok (.iload_n 3, 1) := by decide +kernel
theorem dX1_write_65 : decode cX1_write 65 = .ok (.aaload, 1) := by decide +kernel
theorem dX1_write_66 : decode cX1_write 66 = .ok (.iload_n 3, 1) := by decide +kernel
theorem dX1_write_67 : decode cX1_write 67 = .ok (.dup2, 1) := by decide +kernel
theorem dX1_write_68 : decode cX1_write 68 = .ok (.laload, 1) := by decide +kernel
theorem dX1_write_69 : decode cX1_write 69 = .ok (.iconst 2, 1) := by decide +kernel
theorem dX1_write_70 : decode cX1_write 70 = .ok (.iload 4, 2) := by decide +kernel
theorem dX1_write_72 : decode cX1_write 72 = .ok (.imul, 1) := by decide +kernel
theorem dX1_write_73 : decode cX1_write 73 = .ok (.i2l, 1) := by decide +kernel
theorem dX1_write_74 : decode cX1_write 74 = .ok (.ladd, 1) := by decide +kernel
theorem dX1_write_75 : decode cX1_write 75 = .ok (.lastore, 1) := by decide +kernel
theorem dX1_write_76 : decode cX1_write 76 = .ok (.iload 5, 2) := by decide +kernel
theorem dX1_write_78 : decode cX1_write 78 = .ok (.ifCond .lt 18, 3) := by decide +kernel
theorem dX1_write_81 : decode cX1_write 81 = .ok (.aload_n 0, 1) := by decide +kernel
theorem dX1_write_82 : decode cX1_write 82 = .ok (.getfield 11, 3) := by decide +kernel
theorem dX1_write_85 : decode cX1_write 85 = .ok (.iload_n 3, 1) := by decide +kernel
theorem dX1_write_86 : decode cX1_write 86 = .ok (.aaload, 1) := by decide +kernel
theorem dX1_write_87 : decode cX1_write 87 = .ok (.iload 5, 2) := by decide +kernel
theorem dX1_write_89 : decode cX1_write 89 = .ok (.dup2, 1) := by decide +kernel
theorem dX1_write_90 : decode cX1_write 90 = .ok (.laload, 1) := by decide +kernel
theorem dX1_write_91 : decode cX1_write 91 = .ok (.iload 4, 2) := by decide +kernel
theorem dX1_write_93 : decode cX1_write 93 = .ok (.i2l, 1) := by decide +kernel
theorem dX1_write_94 : decode cX1_write 94 = .ok (.ladd, 1) := by decide +kernel
theorem dX1_write_95 : decode cX1_write 95 = .ok (.lastore, 1) := by decide +kernel
theorem dX1_write_96 : decode cX1_write 96 = .ok (.aload_n 0, 1) := by decide +kernel
theorem dX1_write_97 : decode cX1_write 97 = .ok (.getfield 11, 3) := by decide +kernel
theorem dX1_write_100 : decode cX1_write 100 = .ok (.iload_n 3, 1) := by decide +kernel
theorem dX1_write_101 : decode cX1_write 101 = .ok (.aaload, 1) := by decide +kernel
theorem dX1_write_102 : decode cX1_write 102 = .ok (.iconst 4, 1) := by decide +kernel
theorem dX1_write_103 : decode cX1_write 103 = .ok (.dup2, 1) := by decide +kernel
theorem dX1_write_104 : decode cX1_write 104 = .ok (.laload, 1) := by decide +kernel
theorem dX1_write_105 : decode cX1_write 105 = .ok (.aload_n 1, 1) := by decide +kernel
theorem dX1_write_106 : decode cX1_write 106 = .ok (.iload_n 2, 1) := by decide +kernel
theorem dX1_write_107 : decode cX1_write 107 = .ok (.invokevirtual 32, 3) := by decide +kernel
theorem dX1_write_110 : decode cX1_write 110 = .ok (.i2l, 1) := by decide +kernel
theorem dX1_write_111 : decode cX1_write 111 = .ok (.lsub, 1) := by decide +kernel
theorem dX1_write_112 : decode cX1_write 112 = .ok (.lastore, 1) := by decide +kernel
theorem dX1_write_113 : decode cX1_write 113 = .ok (.iinc 2 1, 3) := by decide +kernel
theorem dX1_write_116 : decode cX1_write 116 = .ok (.goto (-109), 3) := by decide +kernel
theorem dX1_write_119 : decode cX1_write 119 = .ok (.return_, 1) := by decide +kernel
theorem dX1_number_0 : decode cX1_number 0 = .ok (.aload_n 0, 1) := by decide +kernel
theorem dX1_number_1 : decode cX1_number 1 = .ok (.iconst 0, 1) := by decide +kernel
theorem dX1_number_2 : decode cX1_number 2 = .ok (.putfield 24, 3) := by decide +kernel
theorem dX1_number_5 : decode cX1_number 5 = .ok (.iconst 0, 1) := by decide +kernel
theorem dX1_number_6 : decode cX1_number 6 = .ok (.istore_n 2, 1) := by decide +kernel
theorem dX1_number_7 : decode cX1_number 7 = .ok (.iload_n 2, 1) := by decide +kernel
theorem dX1_number_8 : decode cX1_number 8 = .ok (.aload_n 1, 1) := by decide +kernel
theorem dX1_number_9 : decode cX1_number 9 = .ok (.getfield 65, 3) := by decide +kernel
theorem dX1_number_12 : decode cX1_number 12 = .ok (.if_icmp .ge 109, 3) := by decide +kernel
theorem dX1_number_15 : decode cX1_number 15 = .ok (.aload_n 0, 1) := by decide +kernel
theorem dX1_number_16 : decode cX1_number 16 = .ok (.getfield 16, 3) := by decide +kernel
theorem dX1_number_19 : decode cX1_number 19 = .ok (.iload_n 2, 1) := by decide +kernel
theorem dX1_number_20 : decode cX1_number 20 = .ok (.bipush (-4), 2) := by decide +kernel
theorem dX1_number_22 : decode cX1_number 22 = .ok (.iastore, 1) := by decide +kernel
theorem dX1_number_23 : decode cX1_number 23 = .ok (.aload_n 1, 1) := by decide +kernel
theorem dX1_number_24 : decode cX1_number 24 = .ok (.getfield 68, 3) := by decide +kernel
theorem dX1_number_27 : decode cX1_number 27 = .ok (.iload_n 2, 1) := by decide +kernel
theorem dX1_number_28 : decode cX1_number 28 = .ok (.baload, 1) := by decide +kernel
theorem dX1_number_29 : decode cX1_number 29 = .ok (.ifCond .ne 86, 3) := by decide +kernel
theorem dX1_number_32 : decode cX1_number 32 = .ok (.aload_n 1, 1) := by decide +kernel
theorem dX1_number_33 : decode cX1_number 33 = .ok (.iload_n 2, 1) := by decide +kernel
theorem dX1_number_34 : decode cX1_number 34 = .ok (.invokestatic 72, 3) := by decide +kernel
theorem dX1_number_37 : decode cX1_number 37 = .ok (.ifCond .eq 78, 3) := by decide +kernel
theorem dX1_number_40 : decode cX1_number 40 = .ok (.aload_n 0, 1) := by decide +kernel
theorem dX1_number_41 : decode cX1_number 41 = .ok (.getfield 24, 3) := by decide +kernel
theorem dX1_number_44 : decode cX1_number 44 = .ok (.iconst 4, 1) := by decide +kernel
theorem dX1_number_45 : decode cX1_number 45 = .ok (.if_icmp .lt 6, 3) := by decide +kernel
theorem dX1_number_48 : decode cX1_number 48 = .ok (.goto 67, 3) := by decide +kernel
theorem dX1_number_51 : decode cX1_number 51 = .ok (.iconst 0, 1) := by decide +kernel
theorem dX1_number_52 : decode cX1_number 52 = .ok (.istore_n 3, 1) := by decide +kernel
theorem dX1_number_53 : decode cX1_number 53 = .ok (.iload_n 3, 1) := by decide +kernel
theorem dX1_number_54 : decode cX1_number 54 = .ok (.iconst 4, 1) := by decide +kernel
theorem dX1_number_55 : decode cX1_number 55 = .ok (.if_icmp .ge 21, 3) := by decide +kernel
theorem dX1_number_58 : decode cX1_number 58 = .ok (.aload_n 0, 1) := by decide +kernel
theorem dX1_number_59 : decode cX1_number 59 = .ok (.getfield 11, 3) := by decide +kernel
theorem dX1_number_62 : decode cX1_number 62 = .ok (.aload_n 0, 1) := by decide +kernel
theorem dX1_number_63 : decode cX1_number 63 = .ok (.getfield 24, 3) := by decide +kernel
theorem dX1_number_66 : decode cX1_number 66 = .ok (.aaload, 1) := by decide +kernel
theorem dX1_number_67 : decode cX1_number 67 = .ok (.iload_n 3, 1) := by decide +kernel
theorem dX1_number_68 : decode cX1_number 68 = .ok (.lconst 0, 1) := by decide +kernel
theorem dX1_number_69 : decode cX1_number 69 = .ok (.lastore, 1) := by decide +kernel
theorem dX1_number_70 : decode cX1_number 70 = .ok (.iinc 3 1, 3) := by decide +kernel
theorem dX1_number_73 : decode cX1_number 73 = .ok (.goto (-20), 3) := by decide +kernel
theorem dX1_number_76 : decode cX1_number 76 = .ok (.aload_n 0, 1) := by decide +kernel
theorem dX1_number_77 : decode cX1_number 77 = .ok (.getfield 11, 3) := by decide +kernel
theorem dX1_number_80 : decode cX1_number 80 = .ok (.aload_n 0, 1) := by decide +kernel
theorem dX1_number_81 : decode cX1_number 81 = .ok (.getfield 24, 3) := by decide +kernel
theorem dX1_number_84 : decode cX1_number 84 = .ok (.aaload, 1) := by decide +kernel
theorem dX1_number_85 : decode cX1_number 85 = .ok (.iconst 4, 1) := by decide +kernel
theorem dX1_number_86 : decode cX1_number 86 = .ok (.aload_n 1, 1) := by decide +kernel
theorem dX1_number_87 : decode cX1_number 87 = .ok (.getfield 76, 3) := by decide +kernel
theorem dX1_number_90 : decode cX1_number 90 = .ok (.iload_n 2, 1) := by decide +kernel
theorem dX1_number_91 : decode cX1_number 91 = .ok (.iaload, 1) := by decide +kernel
theorem dX1_number_92 : decode cX1_number 92 = .ok (.ineg, 1) := by decide +kernel
theorem dX1_number_93 : decode cX1_number 93 = .ok (.i2l, 1) := by decide +kernel
theorem dX1_number_94 : decode cX1_number 94 = .ok (.lastore, 1) := by decide +kernel
theorem dX1_number_95 : decode cX1_number 95 = .ok (.aload_n 0, 1) := by decide +kernel
theorem dX1_number_96 : decode cX1_number 96 = .ok (.getfield 16, 3) := by decide +kernel
theorem dX1_number_99 : decode cX1_number 99 = .ok (.iload_n 2, 1) := by decide +kernel
theorem dX1_number_100 : decode cX1_number 100 = .ok (.aload_n 0, 1) := by decide +kernel
theorem dX1_number_101 : decode cX1_number 101 = .ok (.getfield 24, 3) := by decide +kernel
theorem dX1_number_104 : decode cX1_number 104 = .ok (.iastore, 1) := by decide +kernel
theorem dX1_number_105 : decode cX1_number 105 = .ok (.aload_n 0, 1) := by decide +kernel
theorem dX1_number_106 : decode cX1_number 106 = .ok (.dup, 1) := by decide +kernel
theorem dX1_number_107 : decode cX1_number 107 = .ok (.getfield 24, 3) := by decide +kernel
theorem dX1_number_110 : decode cX1_number 110 = .ok (.iconst 1, 1) := by decide +kernel
theorem dX1_number_111 : decode cX1_number 111 = .ok (.iadd, 1) := by decide +kernel
theorem dX1_number_112 : decode cX1_number 112 = .ok (.putfield 24, 3) := by decide +kernel
theorem dX1_number_115 : decode cX1_number 115 = .ok (.iinc 2 1, 3) := by decide +kernel
theorem dX1_number_118 : decode cX1_number 118 = .ok (.goto (-111), 3) := by decide +kernel
theorem dX1_number_121 : decode cX1_number 121 = .ok (.return_, 1) := by decide +kernel
theorem dX1_hasEnds_0 : decode cX1_hasEnds 0 = .ok (.iconst 0, 1) := by decide +kernel
theorem dX1_hasEnds_1 : decode cX1_hasEnds 1 = .ok (.istore_n 2, 1) := by decide +kernel
theorem dX1_hasEnds_2 : decode cX1_hasEnds 2 = .ok (.iload_n 2, 1) := by decide +kernel
theorem dX1_hasEnds_3 : decode cX1_hasEnds 3 = .ok (.iconst 2, 1) := by decide +kernel
theorem dX1_hasEnds_4 : decode cX1_hasEnds 4 = .ok (.aload_n 0, 1) := by decide +kernel
theorem dX1_hasEnds_5 : decode cX1_hasEnds 5 = .ok (.getfield 62, 3) := by decide +kernel
theorem dX1_hasEnds_8 : decode cX1_hasEnds 8 = .ok (.imul, 1) := by decide +kernel
theorem dX1_hasEnds_9 : decode cX1_hasEnds 9 = .ok (.if_icmp .ge 20, 3) := by decide +kernel
theorem dX1_hasEnds_12 : decode cX1_hasEnds 12 = .ok (.aload_n 0, 1) := by decide +kernel
theorem dX1_hasEnds_13 : decode cX1_hasEnds 13 = .ok (.iload_n 2, 1) := by decide +kernel
theorem dX1_hasEnds_14 : decode cX1_hasEnds 14 = .ok (.invokevirtual 38, 3) := by decide +kernel
theorem dX1_hasEnds_17 : decode cX1_hasEnds 17 = .ok (.iload_n 1, 1) := by decide +kernel
theorem dX1_hasEnds_18 : decode cX1_hasEnds 18 = .ok (.if_icmp .ne 5, 3) := by decide +kernel
theorem dX1_hasEnds_21 : decode cX1_hasEnds 21 = .ok (.iconst 1, 1) := by decide +kernel
theorem dX1_hasEnds_22 : decode cX1_hasEnds 22 = .ok (.ireturn, 1) := by decide +kernel
theorem dX1_hasEnds_23 : decode cX1_hasEnds 23 = .ok (.iinc 2 1, 3) := by decide +kernel
theorem dX1_hasEnds_26 : decode cX1_hasEnds 26 = .ok (.goto (-24), 3) := by decide +kernel
theorem dX1_hasEnds_29 : decode cX1_hasEnds 29 = .ok (.iconst 0, 1) := by decide +kernel
theorem dX1_hasEnds_30 : decode cX1_hasEnds 30 = .ok (.ireturn, 1) := by decide +kernel
theorem dX1_numerator_0 : decode cX1_numerator 0 = .ok (.aload_n 0, 1) := by decide +kernel
theorem dX1_numerator_1 : decode cX1_numerator 1 = .ok (.getfield 16, 3) := by decide +kernel
theorem dX1_numerator_4 : decode cX1_numerator 4 = .ok (.iload_n 1, 1) := by decide +kernel
theorem dX1_numerator_5 : decode cX1_numerator 5 = .ok (.iaload, 1) := by decide +kernel
theorem dX1_numerator_6 : decode cX1_numerator 6 = .ok (.ifCond .ge 7, 3) := by decide +kernel
theorem dX1_numerator_9 : decode cX1_numerator 9 = .ok (.lconst 0, 1) := by decide +kernel
theorem dX1_numerator_10 : decode cX1_numerator 10 = .ok (.goto 22, 3) := by decide +kernel
theorem dX1_numerator_13 : decode cX1_numerator 13 = .ok (.aload_n 0, 1) := by decide +kernel
theorem dX1_numerator_14 : decode cX1_numerator 14 = .ok (.getfield 11, 3) := by decide +kernel
theorem dX1_numerator_17 : decode cX1_numerator 17 = .ok (.aload_n 0, 1) := by decide +kernel
theorem dX1_numerator_18 : decode cX1_numerator 18 = .ok (.getfield 24, 3) := by decide +kernel
theorem dX1_numerator_21 : decode cX1_numerator 21 = .ok (.aload_n 0, 1) := by decide +kernel
theorem dX1_numerator_22 : decode cX1_numerator 22 = .ok (.getfield 16, 3) := by decide +kernel
theorem dX1_numerator_25 : decode cX1_numerator 25 = .ok (.iload_n 1, 1) := by decide +kernel
theorem dX1_numerator_26 : decode cX1_numerator 26 = .ok (.iaload, 1) := by decide +kernel
theorem dX1_numerator_27 : decode cX1_numerator 27 = .ok (.iconst 0, 1) := by decide +kernel
theorem dX1_numerator_28 : decode cX1_numerator 28 = .ok (.iconst 0, 1) := by decide +kernel
theorem dX1_numerator_29 : decode cX1_numerator 29 = .ok (.invokestatic 28, 3) := by decide +kernel
theorem dX1_numerator_32 : decode cX1_numerator 32 = .ok (.lreturn, 1) := by decide +kernel
theorem dX1_determinant_0 : decode cX1_determinant 0 = .ok (.iload_n 3, 1) := by decide +kernel
theorem dX1_determinant_1 : decode cX1_determinant 1 = .ok (.iload_n 1, 1) := by decide +kernel
theorem dX1_determinant_2 : decode cX1_determinant 2 = .ok (.if_icmp .lt 5, 3) := by decide +kernel
theorem dX1_determinant_5 : decode cX1_determinant 5 = .ok (.lconst 1, 1) := by decide +kernel
theorem dX1_determinant_6 : decode cX1_determinant 6 = .ok (.lreturn, 1) := by decide +kernel
theorem dX1_determinant_7 : decode cX1_determinant 7 = .ok (.lconst 0, 1) := by decide +kernel
theorem dX1_determinant_8 : decode cX1_determinant 8 = .ok (.lstore 5, 2) := by decide +kernel
theorem dX1_determinant_10 : decode cX1_determinant 10 = .ok (.iconst 0, 1) := by decide +kernel
theorem dX1_determinant_11 : decode cX1_determinant 11 = .ok (.istore 7, 2) := by decide +kernel
theorem dX1_determinant_13 : decode cX1_determinant 13 = .ok (.iconst 0, 1) := by decide +kernel
theorem dX1_determinant_14 : decode cX1_determinant 14 = .ok (.istore 8, 2) := by decide +kernel
theorem dX1_determinant_16 : decode cX1_determinant 16 = .ok (.iload 8, 2) := by decide +kernel
theorem dX1_determinant_18 : decode cX1_determinant 18 = .ok (.iload_n 1, 1) := by decide +kernel
theorem dX1_determinant_19 : decode cX1_determinant 19 = .ok (.if_icmp .ge 98, 3) := by decide +kernel
theorem dX1_determinant_22 : decode cX1_determinant 22 = .ok (.iload 4, 2) := by decide +kernel
theorem dX1_determinant_24 : decode cX1_determinant 24 = .ok (.iload 8, 2) := by decide +kernel
theorem dX1_determinant_26 : decode cX1_determinant 26 = .ok (.ishr, 1) := by decide +kernel
theorem dX1_determinant_27 : decode cX1_determinant 27 = .ok (.iconst 1, 1) := by decide +kernel
theorem dX1_determinant_28 : decode cX1_determinant 28 = .ok (.iand, 1) := by decide +kernel
theorem dX1_determinant_29 : decode cX1_determinant 29 = .ok (.ifCond .eq 6, 3) := by decide +kernel
theorem dX1_determinant_32 : decode cX1_determinant 32 = .ok (.goto 79, 3) := by decide +kernel
theorem dX1_determinant_35 : decode cX1_determinant 35 = .ok (.aload_n 0, 1) := by decide +kernel
theorem dX1_determinant_36 : decode cX1_determinant 36 = .ok (.iload_n 3, 1) := by decide +kernel
theorem dX1_determinant_37 : decode cX1_determinant 37 = .ok (.aaload, 1) := by decide +kernel
theorem dX1_determinant_38 : decode cX1_determinant 38 = .ok (.iload 8, 2) := by decide +kernel
theorem dX1_determinant_40 : decode cX1_determinant 40 = .ok (.iload_n 2, 1) := by decide +kernel
theorem dX1_determinant_41 : decode cX1_determinant 41 = .ok (.if_icmp .ne 7, 3) := by decide +kernel
theorem dX1_determinant_44 : decode cX1_determinant 44 = .ok (.iconst 4, 1) := by decide +kernel
theorem dX1_determinant_45 : decode cX1_determinant 45 = .ok (.goto 5, 3) := by decide +kernel
theorem dX1_determinant_48 : decode cX1_determinant 48 = .ok (.iload 8, 2) := by decide +kernel
theorem dX1_determinant_50 : decode cX1_determinant 50 = .ok (.laload, 1) := by decide +kernel
theorem dX1_determinant_51 : decode cX1_determinant 51 = .ok (.lstore 9, 2) := by decide +kernel
theorem dX1_determinant_53 : decode cX1_determinant 53 = .ok (.lload 9, 2) := by decide +kernel
theorem dX1_determinant_55 : decode cX1_determinant 55 = .ok (.lconst 0, 1) := by decide +kernel
theorem dX1_determinant_56 : decode cX1_determinant 56 = .ok (.lcmp, 1) := by decide +kernel
theorem dX1_determinant_57 : decode cX1_determinant 57 = .ok (.ifCond .eq 42, 3) := by decide +kernel
theorem dX1_determinant_60 : decode cX1_determinant 60 = .ok (.lload 9, 2) := by decide +kernel
theorem dX1_determinant_62 : decode cX1_determinant 62 = .ok (.aload_n 0, 1) := by decide +kernel
theorem dX1_determinant_63 : decode cX1_determinant 63 = .ok (.iload_n 1, 1) := by decide +kernel
theorem dX1_determinant_64 : decode cX1_determinant 64 = .ok (.iload_n 2, 1) := by decide +kernel
theorem dX1_determinant_65 : decode cX1_determinant 65 = .ok (.iload_n 3, 1) := by decide +kernel
theorem dX1_determinant_66 : decode cX1_determinant 66 = .ok (.iconst 1, 1) := by decide +kernel
theorem dX1_determinant_67 : decode cX1_determinant 67 = .ok (.iadd, 1) := by decide +kernel
theorem dX1_determinant_68 : decode cX1_determinant 68 = .ok (.iload 4, 2) := by decide +kernel
theorem dX1_determinant_70 : decode cX1_determinant 70 = .ok (.iconst 1, 1) := by decide +kernel
theorem dX1_determinant_71 : decode cX1_determinant 71 = .ok (.iload 8, 2) := by decide +kernel
theorem dX1_determinant_73 : decode cX1_determinant 73 = .ok (.ishl, 1) := by decide +kernel
theorem dX1_determinant_74 : decode cX1_determinant 74 = .ok (.ior, 1) := by decide +kernel
theorem dX1_determinant_75 : decode cX1_determinant 75 = .ok (.invokestatic 28, 3) := by decide +kernel
theorem dX1_determinant_78 : decode cX1_determinant 78 = .ok (.lmul, 1) := by decide +kernel
theorem dX1_determinant_79 : decode cX1_determinant 79 = .ok (.lstore 11, 2) := by decide +kernel
theorem dX1_determinant_81 : decode cX1_determinant 81 = .ok (.lload 5, 2) := by decide +kernel
theorem dX1_determinant_83 : decode cX1_determinant 83 = .ok (.iload 7, 2) := by decide +kernel
theorem dX1_determinant_85 : decode cX1_determinant 85 = .ok (.ifCond .eq 9, 3) := by decide +kernel
theorem dX1_determinant_88 : decode cX1_determinant 88 = .ok (.lload 11, 2) := by decide +kernel
theorem dX1_determinant_90 : decode cX1_determinant 90 = .ok (.lneg, 1) := by decide +kernel
theorem dX1_determinant_91 : decode cX1_determinant 91 = .ok (.goto 5, 3) := by decide +kernel
theorem dX1_determinant_94 : decode cX1_determinant 94 = .ok (.lload 11, 2) := by decide +kernel
theorem dX1_determinant_96 : decode cX1_determinant 96 = .ok (.ladd, 1) := by decide +kernel
theorem dX1_determinant_97 : decode cX1_determinant 97 = .ok (.lstore 5, 2) := by decide +kernel
theorem dX1_determinant_99 : decode cX1_determinant 99 = .ok (.iload 7, 2) := by decide +kernel
theorem dX1_determinant_101 : decode cX1_determinant 101 = .ok (.ifCond .ne 7, 3) := by decide +kernel
theorem dX1_determinant_104 : decode cX1_determinant 104 = .ok (.iconst 1, 1) := by decide +kernel
theorem dX1_determinant_105 : decode cX1_determinant 105 = .ok (.goto 4, 3) := by decide +kernel
theorem dX1_determinant_108 : decode cX1_determinant 108 = .ok (.iconst 0, 1) := by decide +kernel
theorem dX1_determinant_109 : decode cX1_determinant 109 = .ok (.istore 7, 2) := by decide +kernel
theorem dX1_determinant_111 : decode cX1_determinant 111 = .ok (.iinc 8 1, 3) := by decide +kernel
theorem dX1_determinant_114 : decode cX1_determinant 114 = .ok (.goto (-98), 3) := by decide +kernel
theorem dX1_determinant_117 : decode cX1_determinant 117 = .ok (.lload 5, 2) := by decide +kernel
theorem dX1_determinant_119 : decode cX1_determinant 119 = .ok (.lreturn, 1) := by decide +kernel
theorem dX2_init_0 : decode cX2_init 0 = .ok (.aload_n 0, 1) := by decide +kernel
theorem dX2_init_1 : decode cX2_init 1 = .ok (.invokespecial 3, 3) := by decide +kernel
theorem dX2_init_4 : decode cX2_init 4 = .ok (.aload_n 0, 1) := by decide +kernel
theorem dX2_init_5 : decode cX2_init 5 = .ok (.bipush 6, 2) := by decide +kernel
theorem dX2_init_7 : decode cX2_init 7 = .ok (.newarray .boolean, 2) := by decide +kernel
theorem dX2_init_9 : decode cX2_init 9 = .ok (.putfield 9, 3) := by decide +kernel
theorem dX2_init_12 : decode cX2_init 12 = .ok (.aload_n 0, 1) := by decide +kernel
theorem dX2_init_13 : decode cX2_init 13 = .ok (.bipush 6, 2) := by decide +kernel
theorem dX2_init_15 : decode cX2_init 15 = .ok (.newarray .int, 2) := by decide +kernel
theorem dX2_init_17 : decode cX2_init 17 = .ok (.putfield 15, 3) := by decide +kernel
theorem dX2_init_20 : decode cX2_init 20 = .ok (.aload_n 0, 1) := by decide +kernel
theorem dX2_init_21 : decode cX2_init 21 = .ok (.bipush 20, 2) := by decide +kernel
theorem dX2_init_23 : decode cX2_init 23 = .ok (.newarray .int, 2) := by decide +kernel
theorem dX2_init_25 : decode cX2_init 25 = .ok (.putfield 19, 3) := by decide +kernel
theorem dX2_init_28 : decode cX2_init 28 = .ok (.aload_n 0, 1) := by decide +kernel
theorem dX2_init_29 : decode cX2_init 29 = .ok (.bipush 10, 2) := by decide +kernel
theorem dX2_init_31 : decode cX2_init 31 = .ok (.newarray .int, 2) := by decide +kernel
theorem dX2_init_33 : decode cX2_init 33 = .ok (.putfield 22, 3) := by decide +kernel
theorem dX2_init_36 : decode cX2_init 36 = .ok (.aload_n 0, 1) := by decide +kernel
theorem dX2_init_37 : decode cX2_init 37 = .ok (.bipush 10, 2) := by decide +kernel
theorem dX2_init_39 : decode cX2_init 39 = .ok (.newarray .int, 2) := by decide +kernel
theorem dX2_init_41 : decode cX2_init 41 = .ok (.putfield 25, 3) := by decide +kernel
theorem dX2_init_44 : decode cX2_init 44 = .ok (.aload_n 0, 1) := by decide +kernel
theorem dX2_init_45 : decode cX2_init 45 = .ok (.bipush 8, 2) := by decide +kernel
theorem dX2_init_47 : decode cX2_init 47 = .ok (.newarray .int, 2) := by decide +kernel
theorem dX2_init_49 : decode cX2_init 49 = .ok (.putfield 28, 3) := by decide +kernel
theorem dX2_init_52 : decode cX2_init 52 = .ok (.aload_n 0, 1) := by decide +kernel
theorem dX2_init_53 : decode cX2_init 53 = .ok (.bipush 8, 2) := by decide +kernel
theorem dX2_init_55 : decode cX2_init 55 = .ok (.newarray .int, 2) := by decide +kernel
theorem dX2_init_57 : decode cX2_init 57 = .ok (.putfield 31, 3) := by decide +kernel
theorem dX2_init_60 : decode cX2_init 60 = .ok (.aload_n 0, 1) := by decide +kernel
theorem dX2_init_61 : decode cX2_init 61 = .ok (.bipush 8, 2) := by decide +kernel
theorem dX2_init_63 : decode cX2_init 63 = .ok (.newarray .int, 2) := by decide +kernel
theorem dX2_init_65 : decode cX2_init 65 = .ok (.putfield 34, 3) := by decide +kernel
theorem dX2_init_68 : decode cX2_init 68 = .ok (.return_, 1) := by decide +kernel
theorem dX2_isJoint_0 : decode cX2_isJoint 0 = .ok (.iload_n 1, 1) := by decide +kernel
theorem dX2_isJoint_1 : decode cX2_isJoint 1 = .ok (.ifCond .lt 15, 3) := by decide +kernel
theorem dX2_isJoint_4 : decode cX2_isJoint 4 = .ok (.iload_n 1, 1) := by decide +kernel
theorem dX2_isJoint_5 : decode cX2_isJoint 5 = .ok (.aload_n 0, 1) := by decide +kernel
theorem dX2_isJoint_6 : decode cX2_isJoint 6 = .ok (.getfield 37, 3) := by decide +kernel
theorem dX2_isJoint_9 : decode cX2_isJoint 9 = .ok (.if_icmp .ge 7, 3) := by decide +kernel
theorem dX2_isJoint_12 : decode cX2_isJoint 12 = .ok (.iconst 1, 1) := by decide +kernel
theorem dX2_isJoint_13 : decode cX2_isJoint 13 = .ok (.goto 4, 3) := by decide +kernel
theorem dX2_isJoint_16 : decode cX2_isJoint 16 = .ok (.iconst 0, 1) := by decide +kernel
theorem dX2_isJoint_17 : decode cX2_isJoint 17 = .ok (.ireturn, 1) := by decide +kernel
theorem dX2_isBeam_0 : decode cX2_isBeam 0 = .ok (.iload_n 1, 1) := by decide +kernel
theorem dX2_isBeam_1 : decode cX2_isBeam 1 = .ok (.ifCond .lt 15, 3) := by decide +kernel
theorem dX2_isBeam_4 : decode cX2_isBeam 4 = .ok (.iload_n 1, 1) := by decide +kernel
theorem dX2_isBeam_5 : decode cX2_isBeam 5 = .ok (.aload_n 0, 1) := by decide +kernel
theorem dX2_isBeam_6 : decode cX2_isBeam 6 = .ok (.getfield 41, 3) := by decide +kernel
theorem dX2_isBeam_9 : decode cX2_isBeam 9 = .ok (.if_icmp .ge 7, 3) := by decide +kernel
theorem dX2_isBeam_12 : decode cX2_isBeam 12 = .ok (.iconst 1, 1) := by decide +kernel
theorem dX2_isBeam_13 : decode cX2_isBeam 13 = .ok (.goto 4, 3) := by decide +kernel
theorem dX2_isBeam_16 : decode cX2_isBeam 16 = .ok (.iconst 0, 1) := by decide +kernel
theorem dX2_isBeam_17 : decode cX2_isBeam 17 = .ok (.ireturn, 1) := by decide +kernel
theorem dX2_isEnd_0 : decode cX2_isEnd 0 = .ok (.iload_n 1, 1) := by decide +kernel
theorem dX2_isEnd_1 : decode cX2_isEnd 1 = .ok (.ifCond .lt 17, 3) := by decide +kernel
theorem dX2_isEnd_4 : decode cX2_isEnd 4 = .ok (.iload_n 1, 1) := by decide +kernel
theorem dX2_isEnd_5 : decode cX2_isEnd 5 = .ok (.iconst 2, 1) := by decide +kernel
theorem dX2_isEnd_6 : decode cX2_isEnd 6 = .ok (.aload_n 0, 1) := by decide +kernel
theorem dX2_isEnd_7 : decode cX2_isEnd 7 = .ok (.getfield 41, 3) := by decide +kernel
theorem dX2_isEnd_10 : decode cX2_isEnd 10 = .ok (.imul, 1) := by decide +kernel
theorem dX2_isEnd_11 : decode cX2_isEnd 11 = .ok (.if_icmp .ge 7, 3) := by decide +kernel
theorem dX2_isEnd_14 : decode cX2_isEnd 14 = .ok (.iconst 1, 1) := by decide +kernel
theorem dX2_isEnd_15 : decode cX2_isEnd 15 = .ok (.goto 4, 3) := by decide +kernel
theorem dX2_isEnd_18 : decode cX2_isEnd 18 = .ok (.iconst 0, 1) := by decide +kernel
theorem dX2_isEnd_19 : decode cX2_isEnd 19 = .ok (.ireturn, 1) := by decide +kernel
theorem dX2_isLoad_0 : decode cX2_isLoad 0 = .ok (.iload_n 1, 1) := by decide +kernel
theorem dX2_isLoad_1 : decode cX2_isLoad 1 = .ok (.ifCond .lt 15, 3) := by decide +kernel
theorem dX2_isLoad_4 : decode cX2_isLoad 4 = .ok (.iload_n 1, 1) := by decide +kernel
theorem dX2_isLoad_5 : decode cX2_isLoad 5 = .ok (.aload_n 0, 1) := by decide +kernel
theorem dX2_isLoad_6 : decode cX2_isLoad 6 = .ok (.getfield 44, 3) := by decide +kernel
theorem dX2_isLoad_9 : decode cX2_isLoad 9 = .ok (.if_icmp .ge 7, 3) := by decide +kernel
theorem dX2_isLoad_12 : decode cX2_isLoad 12 = .ok (.iconst 1, 1) := by decide +kernel
theorem dX2_isLoad_13 : decode cX2_isLoad 13 = .ok (.goto 4, 3) := by decide +kernel
theorem dX2_isLoad_16 : decode cX2_isLoad 16 = .ok (.iconst 0, 1) := by decide +kernel
theorem dX2_isLoad_17 : decode cX2_isLoad 17 = .ok (.ireturn, 1) := by decide +kernel
theorem dX2_clear_0 : decode cX2_clear 0 = .ok (.aload_n 0, 1) := by decide +kernel
theorem dX2_clear_1 : decode cX2_clear 1 = .ok (.iconst 0, 1) := by decide +kernel
theorem dX2_clear_2 : decode cX2_clear 2 = .ok (.putfield 37, 3) := by decide +kernel
theorem dX2_clear_5 : decode cX2_clear 5 = .ok (.aload_n 0, 1) := by decide +kernel
theorem dX2_clear_6 : decode cX2_clear 6 = .ok (.iconst 0, 1) := by decide +kernel
theorem dX2_clear_7 : decode cX2_clear 7 = .ok (.putfield 41, 3) := by decide +kernel
theorem dX2_clear_10 : decode cX2_clear 10 = .ok (.aload_n 0, 1) := by decide +kernel
theorem dX2_clear_11 : decode cX2_clear 11 = .ok (.iconst 0, 1) := by decide +kernel
theorem dX2_clear_12 : decode cX2_clear 12 = .ok (.putfield 44, 3) := by decide +kernel
theorem dX2_clear_15 : decode cX2_clear 15 = .ok (.return_, 1) := by decide +kernel
theorem dX2_copy_0 : decode cX2_copy 0 = .ok (.aload_n 0, 1) := by decide +kernel
theorem dX2_copy_1 : decode cX2_copy 1 = .ok (.aload_n 1, 1) := by decide +kernel
theorem dX2_copy_2 : decode cX2_copy 2 = .ok (.getfield 37, 3) := by decide +kernel
theorem dX2_copy_5 : decode cX2_copy 5 = .ok (.putfield 37, 3) := by decide +kernel
theorem dX2_copy_8 : decode cX2_copy 8 = .ok (.aload_n 0, 1) := by decide +kernel
theorem dX2_copy_9 : decode cX2_copy 9 = .ok (.aload_n 1, 1) := by decide +kernel
theorem dX2_copy_10 : decode cX2_copy 10 = .ok (.getfield 41, 3) := by decide +kernel
theorem dX2_copy_13 : decode cX2_copy 13 = .ok (.putfield 41, 3) := by decide +kernel
theorem dX2_copy_16 : decode cX2_copy 16 = .ok (.aload_n 0, 1) := by decide +kernel
theorem dX2_copy_17 : decode cX2_copy 17 = .ok (.aload_n 1, 1) := by decide +kernel
theorem dX2_copy_18 : decode cX2_copy 18 = .ok (.getfield 44, 3) := by decide +kernel
theorem dX2_copy_21 : decode cX2_copy 21 = .ok (.putfield 44, 3) := by decide +kernel
theorem dX2_copy_24 : decode cX2_copy 24 = .ok (.iconst 0, 1) := by decide +kernel
theorem dX2_copy_25 : decode cX2_copy 25 = .ok (.istore_n 2, 1) := by decide +kernel
theorem dX2_copy_26 : decode cX2_copy 26 = .ok (.iload_n 2, 1) := by decide +kernel
theorem dX2_copy_27 : decode cX2_copy 27 = .ok (.bipush 6, 2) := by decide +kernel
theorem dX2_copy_29 : decode cX2_copy 29 = .ok (.if_icmp .ge 21, 3) := by decide +kernel
theorem dX2_copy_32 : decode cX2_copy 32 = .ok (.aload_n 0, 1) := by decide +kernel
theorem dX2_copy_33 : decode cX2_copy 33 = .ok (.getfield 9, 3) := by decide +kernel
theorem dX2_copy_36 : decode cX2_copy 36 = .ok (.iload_n 2, 1) := by decide +kernel
theorem dX2_copy_37 : decode cX2_copy 37 = .ok (.aload_n 1, 1) := by decide +kernel
theorem dX2_copy_38 : decode cX2_copy 38 = .ok (.getfield 9, 3) := by decide +kernel
theorem dX2_copy_41 : decode cX2_copy 41 = .ok (.iload_n 2, 1) := by decide +kernel
theorem dX2_copy_42 : decode cX2_copy 42 = .ok (.baload, 1) := by decide +kernel
theorem dX2_copy_43 : decode cX2_copy 43 = .ok (.bastore, 1) := by decide +kernel
theorem dX2_copy_44 : decode cX2_copy 44 = .ok (.iinc 2 1, 3) := by decide +kernel
theorem dX2_copy_47 : decode cX2_copy 47 = .ok (.goto (-21), 3) := by decide +kernel
theorem dX2_copy_50 : decode cX2_copy 50 = .ok (.aload_n 1, 1) := by decide +kernel
theorem dX2_copy_51 : decode cX2_copy 51 = .ok (.getfield 15, 3) := by decide +kernel
theorem dX2_copy_54 : decode cX2_copy 54 = .ok (.iconst 0, 1) := by decide +kernel
theorem dX2_copy_55 : decode cX2_copy 55 = .ok (.aload_n 0, 1) := by decide +kernel
theorem dX2_copy_56 : decode cX2_copy 56 = .ok (.getfield 15, 3) := by decide +kernel
theorem dX2_copy_59 : decode cX2_copy 59 = .ok (.iconst 0, 1) := by decide +kernel
theorem dX2_copy_60 : decode cX2_copy 60 = .ok (.bipush 6, 2) := by decide +kernel
theorem dX2_copy_62 : decode cX2_copy 62 = .ok (.invokestatic 47, 3) := by decide +kernel
theorem dX2_copy_65 : decode cX2_copy 65 = .ok (.aload_n 1, 1) := by decide +kernel
theorem dX2_copy_66 : decode cX2_copy 66 = .ok (.getfield 19, 3) := by decide +kernel
theorem dX2_copy_69 : decode cX2_copy 69 = .ok (.iconst 0, 1) := by decide +kernel
theorem dX2_copy_70 : decode cX2_copy 70 = .ok (.aload_n 0, 1) := by decide +kernel
theorem dX2_copy_71 : decode cX2_copy 71 = .ok (.getfield 19, 3) := by decide +kernel
theorem dX2_copy_74 : decode cX2_copy 74 = .ok (.iconst 0, 1) := by decide +kernel
theorem dX2_copy_75 : decode cX2_copy 75 = .ok (.bipush 20, 2) := by decide +kernel
theorem dX2_copy_77 : decode cX2_copy 77 = .ok (.invokestatic 47, 3) := by decide +kernel
theorem dX2_copy_80 : decode cX2_copy 80 = .ok (.aload_n 1, 1) := by decide +kernel
theorem dX2_copy_81 : decode cX2_copy 81 = .ok (.getfield 22, 3) := by decide +kernel
theorem dX2_copy_84 : decode cX2_copy 84 = .ok (.iconst 0, 1) := by decide +kernel
theorem dX2_copy_85 : decode cX2_copy 85 = .ok (.aload_n 0, 1) := by decide +kernel
theorem dX2_copy_86 : decode cX2_copy 86 = .ok (.getfield 22, 3) := by decide +kernel
theorem dX2_copy_89 : decode cX2_copy 89 = .ok (.iconst 0, 1) := by decide +kernel
theorem dX2_copy_90 : decode cX2_copy 90 = .ok (.bipush 10, 2) := by decide +kernel
theorem dX2_copy_92 : decode cX2_copy 92 = .ok (.invokestatic 47, 3) := by decide +kernel
theorem dX2_copy_95 : decode cX2_copy 95 = .ok (.aload_n 1, 1) := by decide +kernel
theorem dX2_copy_96 : decode cX2_copy 96 = .ok (.getfield 25, 3) := by decide +kernel
theorem dX2_copy_99 : decode cX2_copy 99 = .ok (.iconst 0, 1) := by decide +kernel
theorem dX2_copy_100 : decode cX2_copy 100 = .ok (.aload_n 0, 1) := by decide +kernel
theorem dX2_copy_101 : decode cX2_copy 101 = .ok (.getfield 25, 3) := by decide +kernel
theorem dX2_copy_104 : decode cX2_copy 104 = .ok (.iconst 0, 1) := by decide +kernel
theorem dX2_copy_105 : decode cX2_copy 105 = .ok (.bipush 10, 2) := by decide +kernel
theorem dX2_copy_107 : decode cX2_copy 107 = .ok (.invokestatic 47, 3) := by decide +kernel
theorem dX2_copy_110 : decode cX2_copy 110 = .ok (.aload_n 1, 1) := by decide +kernel
theorem dX2_copy_111 : decode cX2_copy 111 = .ok (.getfield 28, 3) := by decide +kernel
theorem dX2_copy_114 : decode cX2_copy 114 = .ok (.iconst 0, 1) := by decide +kernel
theorem dX2_copy_115 : decode cX2_copy 115 = .ok (.aload_n 0, 1) := by decide +kernel
theorem dX2_copy_116 : decode cX2_copy 116 = .ok (.getfield 28, 3) := by decide +kernel
theorem dX2_copy_119 : decode cX2_copy 119 = .ok (.iconst 0, 1) := by decide +kernel
theorem dX2_copy_120 : decode cX2_copy 120 = .ok (.bipush 8, 2) := by decide +kernel
theorem dX2_copy_122 : decode cX2_copy 122 = .ok (.invokestatic 47, 3) := by decide +kernel
theorem dX2_copy_125 : decode cX2_copy 125 = .ok (.aload_n 1, 1) := by decide +kernel
theorem dX2_copy_126 : decode cX2_copy 126 = .ok (.getfield 31, 3) := by decide +kernel
theorem dX2_copy_129 : decode cX2_copy 129 = .ok (.iconst 0, 1) := by decide +kernel
theorem dX2_copy_130 : decode cX2_copy 130 = .ok (.aload_n 0, 1) := by decide +kernel
theorem dX2_copy_131 : decode cX2_copy 131 = .ok (.getfield 31, 3) := by decide +kernel
theorem dX2_copy_134 : decode cX2_copy 134 = .ok (.iconst 0, 1) := by decide +kernel
theorem dX2_copy_135 : decode cX2_copy 135 = .ok (.bipush 8, 2) := by decide +kernel
theorem dX2_copy_137 : decode cX2_copy 137 = .ok (.invokestatic 47, 3) := by decide +kernel
theorem dX2_copy_140 : decode cX2_copy 140 = .ok (.aload_n 1, 1) := by decide +kernel
theorem dX2_copy_141 : decode cX2_copy 141 = .ok (.getfield 34, 3) := by decide +kernel
theorem dX2_copy_144 : decode cX2_copy 144 = .ok (.iconst 0, 1) := by decide +kernel
theorem dX2_copy_145 : decode cX2_copy 145 = .ok (.aload_n 0, 1) := by decide +kernel
theorem dX2_copy_146 : decode cX2_copy 146 = .ok (.getfield 34, 3) := by decide +kernel
theorem dX2_copy_149 : decode cX2_copy 149 = .ok (.iconst 0, 1) := by decide +kernel
theorem dX2_copy_150 : decode cX2_copy 150 = .ok (.bipush 8, 2) := by decide +kernel
theorem dX2_copy_152 : decode cX2_copy 152 = .ok (.invokestatic 47, 3) := by decide +kernel
theorem dX2_copy_155 : decode cX2_copy 155 = .ok (.return_, 1) := by decide +kernel
theorem dX2_addJoint_0 : decode cX2_addJoint 0 = .ok (.aload_n 0, 1) := by decide +kernel
theorem dX2_addJoint_1 : decode cX2_addJoint 1 = .ok (.getfield 37, 3) := by decide +kernel
theorem dX2_addJoint_4 : decode cX2_addJoint 4 = .ok (.bipush 6, 2) := by decide +kernel
theorem dX2_addJoint_6 : decode cX2_addJoint 6 = .ok (.if_icmp .ge 33, 3) := by decide +kernel
theorem dX2_addJoint_9 : decode cX2_addJoint 9 = .ok (.aload_n 0, 1) := by decide +kernel
theorem dX2_addJoint_10 : decode cX2_addJoint 10 = .ok (.getfield 9, 3) := by decide +kernel
theorem dX2_addJoint_13 : decode cX2_addJoint 13 = .ok (.aload_n 0, 1) := by decide +kernel
theorem dX2_addJoint_14 : decode cX2_addJoint 14 = .ok (.getfield 37, 3) := by decide +kernel
theorem dX2_addJoint_17 : decode cX2_addJoint 17 = .ok (.iload_n 1, 1) := by decide +kernel
theorem dX2_addJoint_18 : decode cX2_addJoint 18 = .ok (.bastore, 1) := by decide +kernel
theorem dX2_addJoint_19 : decode cX2_addJoint 19 = .ok (.aload_n 0, 1) := by decide +kernel
theorem dX2_addJoint_20 : decode cX2_addJoint 20 = .ok (.getfield 15, 3) := by decide +kernel
theorem dX2_addJoint_23 : decode cX2_addJoint 23 = .ok (.aload_n 0, 1) := by decide +kernel
theorem dX2_addJoint_24 : decode cX2_addJoint 24 = .ok (.getfield 37, 3) := by decide +kernel
theorem dX2_addJoint_27 : decode cX2_addJoint 27 = .ok (.iload_n 2, 1) := by decide +kernel
theorem dX2_addJoint_28 : decode cX2_addJoint 28 = .ok (.iastore, 1) := by decide +kernel
theorem dX2_addJoint_29 : decode cX2_addJoint 29 = .ok (.aload_n 0, 1) := by decide +kernel
theorem dX2_addJoint_30 : decode cX2_addJoint 30 = .ok (.dup, 1) := by decide +kernel
theorem dX2_addJoint_31 : decode cX2_addJoint 31 = .ok (.getfield 37, 3) := by decide +kernel
theorem dX2_addJoint_34 : decode cX2_addJoint 34 = .ok (.iconst 1, 1) := by decide +kernel
theorem dX2_addJoint_35 : decode cX2_addJoint 35 = .ok (.iadd, 1) := by decide +kernel
theorem dX2_addJoint_36 : decode cX2_addJoint 36 = .ok (.putfield 37, 3) := by decide +kernel
theorem dX2_addJoint_39 : decode cX2_addJoint 39 = .ok (.return_, 1) := by decide +kernel
theorem dX2_addBeam_0 : decode cX2_addBeam 0 = .ok (.aload_n 0, 1) := by decide +kernel
theorem dX2_addBeam_1 : decode cX2_addBeam 1 = .ok (.getfield 41, 3) := by decide +kernel
theorem dX2_addBeam_4 : decode cX2_addBeam 4 = .ok (.bipush 10, 2) := by decide +kernel
theorem dX2_addBeam_6 : decode cX2_addBeam 6 = .ok (.if_icmp .ge 60, 3) := by decide +kernel
theorem dX2_addBeam_9 : decode cX2_addBeam 9 = .ok (.aload_n 0, 1) := by decide +kernel
theorem dX2_addBeam_10 : decode cX2_addBeam 10 = .ok (.getfield 19, 3) := by decide +kernel
theorem dX2_addBeam_13 : decode cX2_addBeam 13 = .ok (.iconst 2, 1) := by decide +kernel
theorem dX2_addBeam_14 : decode cX2_addBeam 14 = .ok (.aload_n 0, 1) := by decide +kernel
theorem dX2_addBeam_15 : decode cX2_addBeam 15 = .ok (.getfield 41, 3) := by decide +kernel
theorem dX2_addBeam_18 : decode cX2_addBeam 18 = .ok (.imul, 1) := by decide +kernel
theorem dX2_addBeam_19 : decode cX2_addBeam 19 = .ok (.iload_n 1, 1) := by decide +kernel
theorem dX2_addBeam_20 : decode cX2_addBeam 20 = .ok (.iastore, 1) := by decide +kernel
theorem dX2_addBeam_21 : decode cX2_addBeam 21 = .ok (.aload_n 0, 1) := by decide +kernel
theorem dX2_addBeam_22 : decode cX2_addBeam 22 = .ok (.getfield 19, 3) := by decide +kernel
theorem dX2_addBeam_25 : decode cX2_addBeam 25 = .ok (.iconst 2, 1) := by decide +kernel
theorem dX2_addBeam_26 : decode cX2_addBeam 26 = .ok (.aload_n 0, 1) := by decide +kernel
theorem dX2_addBeam_27 : decode cX2_addBeam 27 = .ok (.getfield 41, 3) := by decide +kernel
theorem dX2_addBeam_30 : decode cX2_addBeam 30 = .ok (.imul, 1) := by decide +kernel
theorem dX2_addBeam_31 : decode cX2_addBeam 31 = .ok (.iconst 1, 1) := by decide +kernel
theorem dX2_addBeam_32 : decode cX2_addBeam 32 = .ok (.iadd, 1) := by decide +kernel
theorem dX2_addBeam_33 : decode cX2_addBeam 33 = .ok (.iload_n 2, 1) := by decide +kernel
theorem dX2_addBeam_34 : decode cX2_addBeam 34 = .ok (.iastore, 1) := by decide +kernel
theorem dX2_addBeam_35 : decode cX2_addBeam 35 = .ok (.aload_n 0, 1) := by decide +kernel
theorem dX2_addBeam_36 : decode cX2_addBeam 36 = .ok (.getfield 22, 3) := by decide +kernel
theorem dX2_addBeam_39 : decode cX2_addBeam 39 = .ok (.aload_n 0, 1) := by decide +kernel
theorem dX2_addBeam_40 : decode cX2_addBeam 40 = .ok (.getfield 41, 3) := by decide +kernel
theorem dX2_addBeam_43 : decode cX2_addBeam 43 = .ok (.iload_n 3, 1) := by decide +kernel
theorem dX2_addBeam_44 : decode cX2_addBeam 44 = .ok (.iastore, 1) := by decide +kernel
theorem dX2_addBeam_45 : decode cX2_addBeam 45 = .ok (.aload_n 0, 1) := by decide +kernel
theorem dX2_addBeam_46 : decode cX2_addBeam 46 = .ok (.getfield 25, 3) := by decide +kernel
theorem dX2_addBeam_49 : decode cX2_addBeam 49 = .ok (.aload_n 0, 1) := by decide +kernel
theorem dX2_addBeam_50 : decode cX2_addBeam 50 = .ok (.getfield 41, 3) := by decide +kernel
theorem dX2_addBeam_53 : decode cX2_addBeam 53 = .ok (.iload 4, 2) := by decide +kernel
theorem dX2_addBeam_55 : decode cX2_addBeam 55 = .ok (.iastore, 1) := by decide +kernel
theorem dX2_addBeam_56 : decode cX2_addBeam 56 = .ok (.aload_n 0, 1) := by decide +kernel
theorem dX2_addBeam_57 : decode cX2_addBeam 57 = .ok (.dup, 1) := by decide +kernel
theorem dX2_addBeam_58 : decode cX2_addBeam 58 = .ok (.getfield 41, 3) := by decide +kernel
theorem dX2_addBeam_61 : decode cX2_addBeam 61 = .ok (.iconst 1, 1) := by decide +kernel
theorem dX2_addBeam_62 : decode cX2_addBeam 62 = .ok (.iadd, 1) := by decide +kernel
theorem dX2_addBeam_63 : decode cX2_addBeam 63 = .ok (.putfield 41, 3) := by decide +kernel
theorem dX2_addBeam_66 : decode cX2_addBeam 66 = .ok (.return_, 1) := by decide +kernel
theorem dX2_addLoad_0 : decode cX2_addLoad 0 = .ok (.aload_n 0, 1) := by decide +kernel
theorem dX2_addLoad_1 : decode cX2_addLoad 1 = .ok (.getfield 44, 3) := by decide +kernel
theorem dX2_addLoad_4 : decode cX2_addLoad 4 = .ok (.bipush 8, 2) := by decide +kernel
theorem dX2_addLoad_6 : decode cX2_addLoad 6 = .ok (.if_icmp .ge 43, 3) := by decide +kernel
theorem dX2_addLoad_9 : decode cX2_addLoad 9 = .ok (.aload_n 0, 1) := by decide +kernel
theorem dX2_addLoad_10 : decode cX2_addLoad 10 = .ok (.getfield 28, 3) := by decide +kernel
theorem dX2_addLoad_13 : decode cX2_addLoad 13 = .ok (.aload_n 0, 1) := by decide +kernel
theorem dX2_addLoad_14 : decode cX2_addLoad 14 = .ok (.getfield 44, 3) := by decide +kernel
theorem dX2_addLoad_17 : decode cX2_addLoad 17 = .ok (.iload_n 1, 1) := by decide +kernel
theorem dX2_addLoad_18 : decode cX2_addLoad 18 = .ok (.iastore, 1) := by decide +kernel
theorem dX2_addLoad_19 : decode cX2_addLoad 19 = .ok (.aload_n 0, 1) := by decide +kernel
theorem dX2_addLoad_20 : decode cX2_addLoad 20 = .ok (.getfield 31, 3) := by decide +kernel
theorem dX2_addLoad_23 : decode cX2_addLoad 23 = .ok (.aload_n 0, 1) := by decide +kernel
theorem dX2_addLoad_24 : decode cX2_addLoad 24 = .ok (.getfield 44, 3) := by decide +kernel
theorem dX2_addLoad_27 : decode cX2_addLoad 27 = .ok (.iload_n 2, 1) := by decide +kernel
theorem dX2_addLoad_28 : decode cX2_addLoad 28 = .ok (.iastore, 1) := by decide +kernel
theorem dX2_addLoad_29 : decode cX2_addLoad 29 = .ok (.aload_n 0, 1) := by decide +kernel
theorem dX2_addLoad_30 : decode cX2_addLoad 30 = .ok (.getfield 34, 3) := by decide +kernel
theorem dX2_addLoad_33 : decode cX2_addLoad 33 = .ok (.aload_n 0, 1) := by decide +kernel
theorem dX2_addLoad_34 : decode cX2_addLoad 34 = .ok (.getfield 44, 3) := by decide +kernel
theorem dX2_addLoad_37 : decode cX2_addLoad 37 = .ok (.iload_n 3, 1) := by decide +kernel
theorem dX2_addLoad_38 : decode cX2_addLoad 38 = .ok (.iastore, 1) := by decide +kernel
theorem dX2_addLoad_39 : decode cX2_addLoad 39 = .ok (.aload_n 0, 1) := by decide +kernel
theorem dX2_addLoad_40 : decode cX2_addLoad 40 = .ok (.dup, 1) := by decide +kernel
theorem dX2_addLoad_41 : decode cX2_addLoad 41 = .ok (.getfield 44, 3) := by decide +kernel
theorem dX2_addLoad_44 : decode cX2_addLoad 44 = .ok (.iconst 1, 1) := by decide +kernel
theorem dX2_addLoad_45 : decode cX2_addLoad 45 = .ok (.iadd, 1) := by decide +kernel
theorem dX2_addLoad_46 : decode cX2_addLoad 46 = .ok (.putfield 44, 3) := by decide +kernel
theorem dX2_addLoad_49 : decode cX2_addLoad 49 = .ok (.return_, 1) := by decide +kernel
theorem dX2_removeLoad_0 : decode cX2_removeLoad 0 = .ok (.iload_n 1, 1) := by decide +kernel
theorem dX2_removeLoad_1 : decode cX2_removeLoad 1 = .ok (.iconst 1, 1) := by decide +kernel
theorem dX2_removeLoad_2 : decode cX2_removeLoad 2 = .ok (.iadd, 1) := by decide +kernel
theorem dX2_removeLoad_3 : decode cX2_removeLoad 3 = .ok (.istore_n 2, 1) := by decide +kernel
theorem dX2_removeLoad_4 : decode cX2_removeLoad 4 = .ok (.iload_n 2, 1) := by decide +kernel
theorem dX2_removeLoad_5 : decode cX2_removeLoad 5 = .ok (.aload_n 0, 1) := by decide +kernel
theorem dX2_removeLoad_6 : decode cX2_removeLoad 6 = .ok (.getfield 44, 3) := by decide +kernel
theorem dX2_removeLoad_9 : decode cX2_removeLoad 9 = .ok (.if_icmp .ge 51, 3) := by decide +kernel
theorem dX2_removeLoad_12 : decode cX2_removeLoad 12 = .ok (.aload_n 0, 1) := by decide +kernel
theorem dX2_removeLoad_13 : decode cX2_removeLoad 13 = .ok (.getfield 28, 3) := by decide +kernel
theorem dX2_removeLoad_16 : decode cX2_removeLoad 16 = .ok (.iload_n 2, 1) := by decide +kernel
theorem dX2_removeLoad_17 : decode cX2_removeLoad 17 = .ok (.iconst 1, 1) := by decide +kernel
theorem dX2_removeLoad_18 : decode cX2_removeLoad 18 = .ok (.isub, 1) := by decide +kernel
theorem dX2_removeLoad_19 : decode cX2_removeLoad 19 = .ok (.aload_n 0, 1) := by decide +kernel
theorem dX2_removeLoad_20 : decode cX2_removeLoad 20 = .ok (.getfield 28, 3) := by decide +kernel
theorem dX2_removeLoad_23 : decode cX2_removeLoad 23 = .ok (.iload_n 2, 1) := by decide +kernel
theorem dX2_removeLoad_24 : decode cX2_removeLoad 24 = .ok (.iaload, 1) := by decide +kernel
theorem dX2_removeLoad_25 : decode cX2_removeLoad 25 = .ok (.iastore, 1) := by decide +kernel
theorem dX2_removeLoad_26 : decode cX2_removeLoad 26 = .ok (.aload_n 0, 1) := by decide +kernel
theorem dX2_removeLoad_27 : decode cX2_removeLoad 27 = .ok (.getfield 31, 3) := by decide +kernel
theorem dX2_removeLoad_30 : decode cX2_removeLoad 30 = .ok (.iload_n 2, 1) := by decide +kernel
theorem dX2_removeLoad_31 : decode cX2_removeLoad 31 = .ok (.iconst 1, 1) := by decide +kernel
theorem dX2_removeLoad_32 : decode cX2_removeLoad 32 = .ok (.isub, 1) := by decide +kernel
theorem dX2_removeLoad_33 : decode cX2_removeLoad 33 = .ok (.aload_n 0, 1) := by decide +kernel
theorem dX2_removeLoad_34 : decode cX2_removeLoad 34 = .ok (.getfield 31, 3) := by decide +kernel
theorem dX2_removeLoad_37 : decode cX2_removeLoad 37 = .ok (.iload_n 2, 1) := by decide +kernel
theorem dX2_removeLoad_38 : decode cX2_removeLoad 38 = .ok (.iaload, 1) := by decide +kernel
theorem dX2_removeLoad_39 : decode cX2_removeLoad 39 = .ok (.iastore, 1) := by decide +kernel
theorem dX2_removeLoad_40 : decode cX2_removeLoad 40 = .ok (.aload_n 0, 1) := by decide +kernel
theorem dX2_removeLoad_41 : decode cX2_removeLoad 41 = .ok (.getfield 34, 3) := by decide +kernel
theorem dX2_removeLoad_44 : decode cX2_removeLoad 44 = .ok (.iload_n 2, 1) := by decide +kernel
theorem dX2_removeLoad_45 : decode cX2_removeLoad 45 = .ok (.iconst 1, 1) := by decide +kernel
theorem dX2_removeLoad_46 : decode cX2_removeLoad 46 = .ok (.isub, 1) := by decide +kernel
theorem dX2_removeLoad_47 : decode cX2_removeLoad 47 = .ok (.aload_n 0, 1) := by decide +kernel
theorem dX2_removeLoad_48 : decode cX2_removeLoad 48 = .ok (.getfield 34, 3) := by decide +kernel
theorem dX2_removeLoad_51 : decode cX2_removeLoad 51 = .ok (.iload_n 2, 1) := by decide +kernel
theorem dX2_removeLoad_52 : decode cX2_removeLoad 52 = .ok (.iaload, 1) := by decide +kernel
theorem dX2_removeLoad_53 : decode cX2_removeLoad 53 = .ok (.iastore, 1) := by decide +kernel
theorem dX2_removeLoad_54 : decode cX2_removeLoad 54 = .ok (.iinc 2 1, 3) := by decide +kernel
theorem dX2_removeLoad_57 : decode cX2_removeLoad 57 = .ok (.goto (-53), 3) := by decide +kernel
theorem dX2_removeLoad_60 : decode cX2_removeLoad 60 = .ok (.aload_n 0, 1) := by decide +kernel
theorem dX2_removeLoad_61 : decode cX2_removeLoad 61 = .ok (.dup, 1) := by decide +kernel
theorem dX2_removeLoad_62 : decode cX2_removeLoad 62 = .ok (.getfield 44, 3) := by decide +kernel
theorem dX2_removeLoad_65 : decode cX2_removeLoad 65 = .ok (.iconst 1, 1) := by decide +kernel
theorem dX2_removeLoad_66 : decode cX2_removeLoad 66 = .ok (.isub, 1) := by decide +kernel
theorem dX2_removeLoad_67 : decode cX2_removeLoad 67 = .ok (.putfield 44, 3) := by decide +kernel
theorem dX2_removeLoad_70 : decode cX2_removeLoad 70 = .ok (.return_, 1) := by decide +kernel
theorem dX2_drop_0 : decode cX2_drop 0 = .ok (.aload_n 0, 1) := by decide +kernel
theorem dX2_drop_1 : decode cX2_drop 1 = .ok (.getfield 41, 3) := by decide +kernel
theorem dX2_drop_4 : decode cX2_drop 4 = .ok (.iconst 1, 1) := by decide +kernel
theorem dX2_drop_5 : decode cX2_drop 5 = .ok (.if_icmp .ge 4, 3) := by decide +kernel
theorem dX2_drop_8 : decode cX2_drop 8 = .ok (.return_, 1) := by decide +kernel
theorem dX2_drop_9 : decode cX2_drop 9 = .ok (.iload_n 1, 1) := by decide +kernel
theorem dX2_drop_10 : decode cX2_drop 10 = .ok (.aload_n 0, 1) := by decide +kernel
theorem dX2_drop_11 : decode cX2_drop 11 = .ok (.getfield 41, 3) := by decide +kernel
theorem dX2_drop_14 : decode cX2_drop 14 = .ok (.irem, 1) := by decide +kernel
theorem dX2_drop_15 : decode cX2_drop 15 = .ok (.istore_n 2, 1) := by decide +kernel
theorem dX2_drop_16 : decode cX2_drop 16 = .ok (.aload_n 0, 1) := by decide +kernel
theorem dX2_drop_17 : decode cX2_drop 17 = .ok (.getfield 22, 3) := by decide +kernel
theorem dX2_drop_20 : decode cX2_drop 20 = .ok (.iload_n 2, 1) := by decide +kernel
theorem dX2_drop_21 : decode cX2_drop 21 = .ok (.iaload, 1) := by decide +kernel
theorem dX2_drop_22 : decode cX2_drop 22 = .ok (.istore_n 3, 1) := by decide +kernel
theorem dX2_drop_23 : decode cX2_drop 23 = .ok (.iload_n 3, 1) := by decide +kernel
theorem dX2_drop_24 : decode cX2_drop 24 = .ok (.iconst 1, 1) := by decide +kernel
theorem dX2_drop_25 : decode cX2_drop 25 = .ok (.if_icmp .ge 4, 3) := by decide +kernel
theorem dX2_drop_28 : decode cX2_drop 28 = .ok (.return_, 1) := by decide +kernel
theorem dX2_drop_29 : decode cX2_drop 29 = .ok (.iload_n 1, 1) := by decide +kernel
theorem dX2_drop_30 : decode cX2_drop 30 = .ok (.bipush 16, 2) := by decide +kernel
theorem dX2_drop_32 : decode cX2_drop 32 = .ok (.idiv, 1) := by decide +kernel
theorem dX2_drop_33 : decode cX2_drop 33 = .ok (.iload_n 3, 1) := by decide +kernel
theorem dX2_drop_34 : decode cX2_drop 34 = .ok (.irem, 1) := by decide +kernel
theorem dX2_drop_35 : decode cX2_drop 35 = .ok (.istore 4, 2) := by decide +kernel
theorem dX2_drop_37 : decode cX2_drop 37 = .ok (.iload_n 1, 1) := by decide +kernel
theorem dX2_drop_38 : decode cX2_drop 38 = .ok (.bipush 8, 2) := by decide +kernel
theorem dX2_drop_40 : decode cX2_drop 40 = .ok (.idiv, 1) := by decide +kernel
theorem dX2_drop_41 : decode cX2_drop 41 = .ok (.iload 4, 2) := by decide +kernel
theorem dX2_drop_43 : decode cX2_drop 43 = .ok (.ifCond .ne 8, 3) := by decide +kernel
theorem dX2_drop_46 : decode cX2_drop 46 = .ok (.bipush 99, 2) := by decide +kernel
theorem dX2_drop_48 : decode cX2_drop 48 = .ok (.goto 6, 3) := by decide +kernel
theorem dX2_drop_51 : decode cX2_drop 51 = .ok (.sipush 999, 3) := by decide +kernel
theorem dX2_drop_54 : decode cX2_drop 54 = .ok (.irem, 1) := by decide +kernel
theorem dX2_drop_55 : decode cX2_drop 55 = .ok (.iconst 1, 1) := by decide +kernel
theorem dX2_drop_56 : decode cX2_drop 56 = .ok (.iadd, 1) := by decide +kernel
theorem dX2_drop_57 : decode cX2_drop 57 = .ok (.istore 5, 2) := by decide +kernel
theorem dX2_drop_59 : decode cX2_drop 59 = .ok (.aload_n 0, 1) := by decide +kernel
theorem dX2_drop_60 : decode cX2_drop 60 = .ok (.iload_n 2, 1) := by decide +kernel
theorem dX2_drop_61 : decode cX2_drop 61 = .ok (.iload 5, 2) := by decide +kernel
theorem dX2_drop_63 : decode cX2_drop 63 = .ok (.iload 4, 2) := by decide +kernel
theorem dX2_drop_65 : decode cX2_drop 65 = .ok (.invokevirtual 53, 3) := by decide +kernel
theorem dX2_drop_68 : decode cX2_drop 68 = .ok (.return_, 1) := by decide +kernel
theorem dX2_turning_0 : decode cX2_turning 0 = .ok (.iconst 0, 1) := by decide +kernel
theorem dX2_turning_1 : decode cX2_turning 1 = .ok (.istore_n 1, 1) := by decide +kernel
theorem dX2_turning_2 : decode cX2_turning 2 = .ok (.iconst 0, 1) := by decide +kernel
theorem dX2_turning_3 : decode cX2_turning 3 = .ok (.istore_n 2, 1) := by decide +kernel
theorem dX2_turning_4 : decode cX2_turning 4 = .ok (.iload_n 2, 1) := by decide +kernel
theorem dX2_turning_5 : decode cX2_turning 5 = .ok (.aload_n 0, 1) := by decide +kernel
theorem dX2_turning_6 : decode cX2_turning 6 = .ok (.getfield 37, 3) := by decide +kernel
theorem dX2_turning_9 : decode cX2_turning 9 = .ok (.if_icmp .ge 21, 3) := by decide +kernel
theorem dX2_turning_12 : decode cX2_turning 12 = .ok (.aload_n 0, 1) := by decide +kernel
theorem dX2_turning_13 : decode cX2_turning 13 = .ok (.getfield 9, 3) := by decide +kernel
theorem dX2_turning_16 : decode cX2_turning 16 = .ok (.iload_n 2, 1) := by decide +kernel
theorem dX2_turning_17 : decode cX2_turning 17 = .ok (.baload, 1) := by decide +kernel
theorem dX2_turning_18 : decode cX2_turning 18 = .ok (.ifCond .ne 6, 3) := by decide +kernel
theorem dX2_turning_21 : decode cX2_turning 21 = .ok (.iinc 1 1, 3) := by decide +kernel
theorem dX2_turning_24 : decode cX2_turning 24 = .ok (.iinc 2 1, 3) := by decide +kernel
theorem dX2_turning_27 : decode cX2_turning 27 = .ok (.goto (-23), 3) := by decide +kernel
theorem dX2_turning_30 : decode cX2_turning 30 = .ok (.iload_n 1, 1) := by decide +kernel
theorem dX2_turning_31 : decode cX2_turning 31 = .ok (.ireturn, 1) := by decide +kernel
theorem dX2_jointOf_0 : decode cX2_jointOf 0 = .ok (.aload_n 0, 1) := by decide +kernel
theorem dX2_jointOf_1 : decode cX2_jointOf 1 = .ok (.getfield 19, 3) := by decide +kernel
theorem dX2_jointOf_4 : decode cX2_jointOf 4 = .ok (.iload_n 1, 1) := by decide +kernel
theorem dX2_jointOf_5 : decode cX2_jointOf 5 = .ok (.iaload, 1) := by decide +kernel
theorem dX2_jointOf_6 : decode cX2_jointOf 6 = .ok (.ireturn, 1) := by decide +kernel
theorem dX2_otherEnd_0 : decode cX2_otherEnd 0 = .ok (.iload_n 1, 1) := by decide +kernel
theorem dX2_otherEnd_1 : decode cX2_otherEnd 1 = .ok (.iconst 1, 1) := by decide +kernel
theorem dX2_otherEnd_2 : decode cX2_otherEnd 2 = .ok (.ixor, 1) := by decide +kernel
theorem dX2_otherEnd_3 : decode cX2_otherEnd 3 = .ok (.ireturn, 1) := by decide +kernel
theorem dX2_stiffness_0 : decode cX2_stiffness 0 = .ok (.aload_n 0, 1) := by decide +kernel
theorem dX2_stiffness_1 : decode cX2_stiffness 1 = .ok (.getfield 22, 3) := by decide +kernel
theorem dX2_stiffness_4 : decode cX2_stiffness 4 = .ok (.iload_n 1, 1) := by decide +kernel
theorem dX2_stiffness_5 : decode cX2_stiffness 5 = .ok (.iaload, 1) := by decide +kernel
theorem dX2_stiffness_6 : decode cX2_stiffness 6 = .ok (.iconst 1, 1) := by decide +kernel
theorem dX2_stiffness_7 : decode cX2_stiffness 7 = .ok (.if_icmp .ge 7, 3) := by decide +kernel
theorem dX2_stiffness_10 : decode cX2_stiffness 10 = .ok (.iconst 0, 1) := by decide +kernel
theorem dX2_stiffness_11 : decode cX2_stiffness 11 = .ok (.goto 19, 3) := by decide +kernel
theorem dX2_stiffness_14 : decode cX2_stiffness 14 = .ok (.bipush 12, 2) := by decide +kernel
theorem dX2_stiffness_16 : decode cX2_stiffness 16 = .ok (.aload_n 0, 1) := by decide +kernel
theorem dX2_stiffness_17 : decode cX2_stiffness 17 = .ok (.getfield 25, 3) := by decide +kernel
theorem dX2_stiffness_20 : decode cX2_stiffness 20 = .ok (.iload_n 1, 1) := by decide +kernel
theorem dX2_stiffness_21 : decode cX2_stiffness 21 = .ok (.iaload, 1) := by decide +kernel
theorem dX2_stiffness_22 : decode cX2_stiffness 22 = .ok (.imul, 1) := by decide +kernel
theorem dX2_stiffness_23 : decode cX2_stiffness 23 = .ok (.aload_n 0, 1) := by decide +kernel
theorem dX2_stiffness_24 : decode cX2_stiffness 24 = .ok (.getfield 22, 3) := by decide +kernel
theorem dX2_stiffness_27 : decode cX2_stiffness 27 = .ok (.iload_n 1, 1) := by decide +kernel
theorem dX2_stiffness_28 : decode cX2_stiffness 28 = .ok (.iaload, 1) := by decide +kernel
theorem dX2_stiffness_29 : decode cX2_stiffness 29 = .ok (.idiv, 1) := by decide +kernel
theorem dX2_stiffness_30 : decode cX2_stiffness 30 = .ok (.ireturn, 1) := by decide +kernel
theorem dX2_loadsOn_0 : decode cX2_loadsOn 0 = .ok (.iconst 0, 1) := by decide +kernel
theorem dX2_loadsOn_1 : decode cX2_loadsOn 1 = .ok (.istore_n 2, 1) := by decide +kernel
theorem dX2_loadsOn_2 : decode cX2_loadsOn 2 = .ok (.iconst 0, 1) := by decide +kernel
theorem dX2_loadsOn_3 : decode cX2_loadsOn 3 = .ok (.istore_n 3, 1) := by decide +kernel
theorem dX2_loadsOn_4 : decode cX2_loadsOn 4 = .ok (.iload_n 3, 1) := by decide +kernel
theorem dX2_loadsOn_5 : decode cX2_loadsOn 5 = .ok (.aload_n 0, 1) := by decide +kernel
theorem dX2_loadsOn_6 : decode cX2_loadsOn 6 = .ok (.getfield 44, 3) := by decide +kernel
theorem dX2_loadsOn_9 : decode cX2_loadsOn 9 = .ok (.if_icmp .ge 22, 3) := by decide +kernel
theorem dX2_loadsOn_12 : decode cX2_loadsOn 12 = .ok (.aload_n 0, 1) := by decide +kernel
theorem dX2_loadsOn_13 : decode cX2_loadsOn 13 = .ok (.getfield 28, 3) := by decide +kernel
theorem dX2_loadsOn_16 : decode cX2_loadsOn 16 = .ok (.iload_n 3, 1) := by decide +kernel
theorem dX2_loadsOn_17 : decode cX2_loadsOn 17 = .ok (.iaload, 1) := by decide +kernel
theorem dX2_loadsOn_18 : decode cX2_loadsOn 18 = .ok (.iload_n 1, 1) := by decide +kernel
theorem dX2_loadsOn_19 : decode cX2_loadsOn 19 = .ok (.if_icmp .ne 6, 3) := by decide +kernel
theorem dX2_loadsOn_22 : decode cX2_loadsOn 22 = .ok (.iinc 2 1, 3) := by decide +kernel
theorem dX2_loadsOn_25 : decode cX2_loadsOn 25 = .ok (.iinc 3 1, 3) := by decide +kernel
theorem dX2_loadsOn_28 : decode cX2_loadsOn 28 = .ok (.goto (-24), 3) := by decide +kernel
theorem dX2_loadsOn_31 : decode cX2_loadsOn 31 = .ok (.iload_n 2, 1) := by decide +kernel
theorem dX2_loadsOn_32 : decode cX2_loadsOn 32 = .ok (.ireturn, 1) := by decide +kernel
theorem dX2_first_0 : decode cX2_first 0 = .ok (.iconst 0, 1) := by decide +kernel
theorem dX2_first_1 : decode cX2_first 1 = .ok (.istore_n 2, 1) := by decide +kernel
theorem dX2_first_2 : decode cX2_first 2 = .ok (.iconst 0, 1) := by decide +kernel
theorem dX2_first_3 : decode cX2_first 3 = .ok (.istore_n 3, 1) := by decide +kernel
theorem dX2_first_4 : decode cX2_first 4 = .ok (.iload_n 3, 1) := by decide +kernel
theorem dX2_first_5 : decode cX2_first 5 = .ok (.aload_n 0, 1) := by decide +kernel
theorem dX2_first_6 : decode cX2_first 6 = .ok (.getfield 44, 3) := by decide +kernel
theorem dX2_first_9 : decode cX2_first 9 = .ok (.if_icmp .ge 46, 3) := by decide +kernel
theorem dX2_first_12 : decode cX2_first 12 = .ok (.aload_n 0, 1) := by decide +kernel
theorem dX2_first_13 : decode cX2_first 13 = .ok (.getfield 28, 3) := by decide +kernel
theorem dX2_first_16 : decode cX2_first 16 = .ok (.iload_n 3, 1) := by decide +kernel
theorem dX2_first_17 : decode cX2_first 17 = .ok (.iaload, 1) := by decide +kernel
theorem dX2_first_18 : decode cX2_first 18 = .ok (.iload_n 1, 1) := by decide +kernel
theorem dX2_first_19 : decode cX2_first 19 = .ok (.iconst 2, 1) := by decide +kernel
theorem dX2_first_20 : decode cX2_first 20 = .ok (.idiv, 1) := by decide +kernel
theorem dX2_first_21 : decode cX2_first 21 = .ok (.if_icmp .ne 28, 3) := by decide +kernel
theorem dX2_first_24 : decode cX2_first 24 = .ok (.iload_n 2, 1) := by decide +kernel
theorem dX2_first_25 : decode cX2_first 25 = .ok (.iload_n 1, 1) := by decide +kernel
theorem dX2_first_26 : decode cX2_first 26 = .ok (.iconst 2, 1) := by decide +kernel
theorem dX2_first_27 : decode cX2_first 27 = .ok (.irem, 1) := by decide +kernel
theorem dX2_first_28 : decode cX2_first 28 = .ok (.ifCond .ne 13, 3) := by decide +kernel
theorem dX2_first_31 : decode cX2_first 31 = .ok (.aload_n 0, 1) := by decide +kernel
theorem dX2_first_32 : decode cX2_first 32 = .ok (.iload_n 3, 1) := by decide +kernel
theorem dX2_first_33 : decode cX2_first 33 = .ok (.iconst 1, 1) := by decide +kernel
theorem dX2_first_34 : decode cX2_first 34 = .ok (.invokevirtual 57, 3) := by decide +kernel
theorem dX2_first_37 : decode cX2_first 37 = .ok (.ineg, 1) := by decide +kernel
theorem dX2_first_38 : decode cX2_first 38 = .ok (.goto 9, 3) := by decide +kernel
theorem dX2_first_41 : decode cX2_first 41 = .ok (.aload_n 0, 1) := by decide +kernel
theorem dX2_first_42 : decode cX2_first 42 = .ok (.iload_n 3, 1) := by decide +kernel
theorem dX2_first_43 : decode cX2_first 43 = .ok (.iconst 0, 1) := by decide +kernel
theorem dX2_first_44 : decode cX2_first 44 = .ok (.invokevirtual 57, 3) := by decide +kernel
theorem dX2_first_47 : decode cX2_first 47 = .ok (.iadd, 1) := by decide +kernel
theorem dX2_first_48 : decode cX2_first 48 = .ok (.istore_n 2, 1) := by decide +kernel
theorem dX2_first_49 : decode cX2_first 49 = .ok (.iinc 3 1, 3) := by decide +kernel
theorem dX2_first_52 : decode cX2_first 52 = .ok (.goto (-48), 3) := by decide +kernel
theorem dX2_first_55 : decode cX2_first 55 = .ok (.iload_n 2, 1) := by decide +kernel
theorem dX2_first_56 : decode cX2_first 56 = .ok (.ireturn, 1) := by decide +kernel
theorem dX2_pressed_0 : decode cX2_pressed 0 = .ok (.aload_n 0, 1) := by decide +kernel
theorem dX2_pressed_1 : decode cX2_pressed 1 = .ok (.getfield 22, 3) := by decide +kernel
theorem dX2_pressed_4 : decode cX2_pressed 4 = .ok (.aload_n 0, 1) := by decide +kernel
theorem dX2_pressed_5 : decode cX2_pressed 5 = .ok (.getfield 28, 3) := by decide +kernel
theorem dX2_pressed_8 : decode cX2_pressed 8 = .ok (.iload_n 1, 1) := by decide +kernel
theorem dX2_pressed_9 : decode cX2_pressed 9 = .ok (.iaload, 1) := by decide +kernel
theorem dX2_pressed_10 : decode cX2_pressed 10 = .ok (.iaload, 1) := by decide +kernel
theorem dX2_pressed_11 : decode cX2_pressed 11 = .ok (.istore_n 3, 1) := by decide +kernel
theorem dX2_pressed_12 : decode cX2_pressed 12 = .ok (.iload_n 3, 1) := by decide +kernel
theorem dX2_pressed_13 : decode cX2_pressed 13 = .ok (.iconst 1, 1) := by decide +kernel
theorem dX2_pressed_14 : decode cX2_pressed 14 = .ok (.if_icmp .ge 5, 3) := by decide +kernel
theorem dX2_pressed_17 : decode cX2_pressed 17 = .ok (.iconst 0, 1) := by decide +kernel
theorem dX2_pressed_18 : decode cX2_pressed 18 = .ok (.ireturn, 1) := by decide +kernel
theorem dX2_pressed_19 : decode cX2_pressed 19 = .ok (.aload_n 0, 1) := by decide +kernel
theorem dX2_pressed_20 : decode cX2_pressed 20 = .ok (.getfield 34, 3) := by decide +kernel
theorem dX2_pressed_23 : decode cX2_pressed 23 = .ok (.iload_n 1, 1) := by decide +kernel
theorem dX2_pressed_24 : decode cX2_pressed 24 = .ok (.iaload, 1) := by decide +kernel
theorem dX2_pressed_25 : decode cX2_pressed 25 = .ok (.istore 4, 2) := by decide +kernel
theorem dX2_pressed_27 : decode cX2_pressed 27 = .ok (.iload 4, 2) := by decide +kernel
theorem dX2_pressed_29 : decode cX2_pressed 29 = .ok (.ifCond .ne 20, 3) := by decide +kernel
theorem dX2_pressed_32 : decode cX2_pressed 32 = .ok (.bipush 100, 2) := by decide +kernel
theorem dX2_pressed_34 : decode cX2_pressed 34 = .ok (.aload_n 0, 1) := by decide +kernel
theorem dX2_pressed_35 : decode cX2_pressed 35 = .ok (.getfield 31, 3) := by decide +kernel
theorem dX2_pressed_38 : decode cX2_pressed 38 = .ok (.iload_n 1, 1) := by decide +kernel
theorem dX2_pressed_39 : decode cX2_pressed 39 = .ok (.iaload, 1) := by decide +kernel
theorem dX2_pressed_40 : decode cX2_pressed 40 = .ok (.imul, 1) := by decide +kernel
theorem dX2_pressed_41 : decode cX2_pressed 41 = .ok (.iload_n 3, 1) := by decide +kernel
theorem dX2_pressed_42 : decode cX2_pressed 42 = .ok (.imul, 1) := by decide +kernel
theorem dX2_pressed_43 : decode cX2_pressed 43 = .ok (.iload_n 3, 1) := by decide +kernel
theorem dX2_pressed_44 : decode cX2_pressed 44 = .ok (.imul, 1) := by decide +kernel
theorem dX2_pressed_45 : decode cX2_pressed 45 = .ok (.bipush 12, 2) := by decide +kernel
theorem dX2_pressed_47 : decode cX2_pressed 47 = .ok (.idiv, 1) := by decide +kernel
theorem dX2_pressed_48 : decode cX2_pressed 48 = .ok (.ireturn, 1) := by decide +kernel
theorem dX2_pressed_49 : decode cX2_pressed 49 = .ok (.iload_n 3, 1) := by decide +kernel
theorem dX2_pressed_50 : decode cX2_pressed 50 = .ok (.iload 4, 2) := by decide +kernel
theorem dX2_pressed_52 : decode cX2_pressed 52 = .ok (.isub, 1) := by decide +kernel
theorem dX2_pressed_53 : decode cX2_pressed 53 = .ok (.istore 5, 2) := by decide +kernel
theorem dX2_pressed_55 : decode cX2_pressed 55 = .ok (.iload_n 2, 1) := by decide +kernel
theorem dX2_pressed_56 : decode cX2_pressed 56 = .ok (.ifCond .eq 8, 3) := by decide +kernel
theorem dX2_pressed_59 : decode cX2_pressed 59 = .ok (.iload 5, 2) := by decide +kernel
theorem dX2_pressed_61 : decode cX2_pressed 61 = .ok (.goto 5, 3) := by decide +kernel
theorem dX2_pressed_64 : decode cX2_pressed 64 = .ok (.iload 4, 2) := by decide +kernel
theorem dX2_pressed_66 : decode cX2_pressed 66 = .ok (.istore 6, 2) := by decide +kernel
theorem dX2_pressed_68 : decode cX2_pressed 68 = .ok (.bipush 100, 2) := by decide +kernel
theorem dX2_pressed_70 : decode cX2_pressed 70 = .ok (.aload_n 0, 1) := by decide +kernel
theorem dX2_pressed_71 : decode cX2_pressed 71 = .ok (.getfield 31, 3) := by decide +kernel
theorem dX2_pressed_74 : decode cX2_pressed 74 = .ok (.iload_n 1, 1) := by decide +kernel
theorem dX2_pressed_75 : decode cX2_pressed 75 = .ok (.iaload, 1) := by decide +kernel
theorem dX2_pressed_76 : decode cX2_pressed 76 = .ok (.imul, 1) := by decide +kernel
theorem dX2_pressed_77 : decode cX2_pressed 77 = .ok (.iload 4, 2) := by decide +kernel
theorem dX2_pressed_79 : decode cX2_pressed 79 = .ok (.imul, 1) := by decide +kernel
theorem dX2_pressed_80 : decode cX2_pressed 80 = .ok (.iload 5, 2) := by decide +kernel
theorem dX2_pressed_82 : decode cX2_pressed 82 = .ok (.imul, 1) := by decide +kernel
theorem dX2_pressed_83 : decode cX2_pressed 83 = .ok (.iload 6, 2) := by decide +kernel
theorem dX2_pressed_85 : decode cX2_pressed 85 = .ok (.imul, 1) := by decide +kernel
theorem dX2_pressed_86 : decode cX2_pressed 86 = .ok (.iload_n 3, 1) := by decide +kernel
theorem dX2_pressed_87 : decode cX2_pressed 87 = .ok (.iload_n 3, 1) := by decide +kernel
theorem dX2_pressed_88 : decode cX2_pressed 88 = .ok (.imul, 1) := by decide +kernel
theorem dX2_pressed_89 : decode cX2_pressed 89 = .ok (.idiv, 1) := by decide +kernel
theorem dX2_pressed_90 : decode cX2_pressed 90 = .ok (.ireturn, 1) := by decide +kernel
theorem dX2_isWhole_0 : decode cX2_isWhole 0 = .ok (.iconst 0, 1) := by decide +kernel
theorem dX2_isWhole_1 : decode cX2_isWhole 1 = .ok (.istore_n 1, 1) := by decide +kernel
theorem dX2_isWhole_2 : decode cX2_isWhole 2 = .ok (.iload_n 1, 1) := by decide +kernel
theorem dX2_isWhole_3 : decode cX2_isWhole 3 = .ok (.iconst 2, 1) := by decide +kernel
theorem dX2_isWhole_4 : decode cX2_isWhole 4 = .ok (.aload_n 0, 1) := by decide +kernel
theorem dX2_isWhole_5 : decode cX2_isWhole 5 = .ok (.getfield 41, 3) := by decide +kernel
theorem dX2_isWhole_8 : decode cX2_isWhole 8 = .ok (.imul, 1) := by decide +kernel
theorem dX2_isWhole_9 : decode cX2_isWhole 9 = .ok (.if_icmp .ge 24, 3) := by decide +kernel
theorem dX2_isWhole_12 : decode cX2_isWhole 12 = .ok (.aload_n 0, 1) := by decide +kernel
theorem dX2_isWhole_13 : decode cX2_isWhole 13 = .ok (.aload_n 0, 1) := by decide +kernel
theorem dX2_isWhole_14 : decode cX2_isWhole 14 = .ok (.getfield 19, 3) := by decide +kernel
theorem dX2_isWhole_17 : decode cX2_isWhole 17 = .ok (.iload_n 1, 1) := by decide +kernel
theorem dX2_isWhole_18 : decode cX2_isWhole 18 = .ok (.iaload, 1) := by decide +kernel
theorem dX2_isWhole_19 : decode cX2_isWhole 19 = .ok (.invokevirtual 61, 3) := by decide +kernel
theorem dX2_isWhole_22 : decode cX2_isWhole 22 = .ok (.ifCond .ne 5, 3) := by decide +kernel
theorem dX2_isWhole_25 : decode cX2_isWhole 25 = .ok (.iconst 0, 1) := by decide +kernel
theorem dX2_isWhole_26 : decode cX2_isWhole 26 = .ok (.ireturn, 1) := by decide +kernel
theorem dX2_isWhole_27 : decode cX2_isWhole 27 = .ok (.iinc 1 1, 3) := by decide +kernel
theorem dX2_isWhole_30 : decode cX2_isWhole 30 = .ok (.goto (-28), 3) := by decide +kernel
theorem dX2_isWhole_33 : decode cX2_isWhole 33 = .ok (.iconst 0, 1) := by decide +kernel
theorem dX2_isWhole_34 : decode cX2_isWhole 34 = .ok (.istore_n 1, 1) := by decide +kernel
theorem dX2_isWhole_35 : decode cX2_isWhole 35 = .ok (.iload_n 1, 1) := by decide +kernel
theorem dX2_isWhole_36 : decode cX2_isWhole 36 = .ok (.aload_n 0, 1) := by decide +kernel
theorem dX2_isWhole_37 : decode cX2_isWhole 37 = .ok (.getfield 44, 3) := by decide +kernel
theorem dX2_isWhole_40 : decode cX2_isWhole 40 = .ok (.if_icmp .ge 44, 3) := by decide +kernel
theorem dX2_isWhole_43 : decode cX2_isWhole 43 = .ok (.aload_n 0, 1) := by decide +kernel
theorem dX2_isWhole_44 : decode cX2_isWhole 44 = .ok (.aload_n 0, 1) := by decide +kernel
theorem dX2_isWhole_45 : decode cX2_isWhole 45 = .ok (.getfield 28, 3) := by decide +kernel
theorem dX2_isWhole_48 : decode cX2_isWhole 48 = .ok (.iload_n 1, 1) := by decide +kernel
theorem dX2_isWhole_49 : decode cX2_isWhole 49 = .ok (.iaload, 1) := by decide +kernel
theorem dX2_isWhole_50 : decode cX2_isWhole 50 = .ok (.invokevirtual 65, 3) := by decide +kernel
theorem dX2_isWhole_53 : decode cX2_isWhole 53 = .ok (.ifCond .eq 23, 3) := by decide +kernel
theorem dX2_isWhole_56 : decode cX2_isWhole 56 = .ok (.aload_n 0, 1) := by decide +kernel
theorem dX2_isWhole_57 : decode cX2_isWhole 57 = .ok (.getfield 34, 3) := by decide +kernel
theorem dX2_isWhole_60 : decode cX2_isWhole 60 = .ok (.iload_n 1, 1) := by decide +kernel
theorem dX2_isWhole_61 : decode cX2_isWhole 61 = .ok (.iaload, 1) := by decide +kernel
theorem dX2_isWhole_62 : decode cX2_isWhole 62 = .ok (.aload_n 0, 1) := by decide +kernel
theorem dX2_isWhole_63 : decode cX2_isWhole 63 = .ok (.getfield 22, 3) := by decide +kernel
theorem dX2_isWhole_66 : decode cX2_isWhole 66 = .ok (.aload_n 0, 1) := by decide +kernel
theorem dX2_isWhole_67 : decode cX2_isWhole 67 = .ok (.getfield 28, 3) := by decide +kernel
theorem dX2_isWhole_70 : decode cX2_isWhole 70 = .ok (.iload_n 1, 1) := by decide +kernel
theorem dX2_isWhole_71 : decode cX2_isWhole 71 = .ok (.iaload, 1) := by decide +kernel
theorem dX2_isWhole_72 : decode cX2_isWhole 72 = .ok (.iaload, 1) := by decide +kernel
theorem dX2_isWhole_73 : decode cX2_isWhole 73 = .ok (.if_icmp .lt 5, 3) := by decide +kernel
theorem dX2_isWhole_76 : decode cX2_isWhole 76 = .ok (.iconst 0, 1) := by decide +kernel
theorem dX2_isWhole_77 : decode cX2_isWhole 77 = .ok (.ireturn, 1) := by decide +kernel
theorem dX2_isWhole_78 : decode cX2_isWhole 78 = .ok (.iinc 1 1, 3) := by decide +kernel
theorem dX2_isWhole_81 : decode cX2_isWhole 81 = .ok (.goto (-46), 3) := by decide +kernel
theorem dX2_isWhole_84 : decode cX2_isWhole 84 = .ok (.iconst 1, 1) := by decide +kernel
theorem dX2_isWhole_85 : decode cX2_isWhole 85 = .ok (.ireturn, 1) := by decide +kernel
theorem dX3_init_0 : decode cX3_init 0 = .ok (.aload_n 0, 1) := by decide +kernel
theorem dX3_init_1 : decode cX3_init 1 = .ok (.invokespecial 3, 3) := by decide +kernel
theorem dX3_init_4 : decode cX3_init 4 = .ok (.aload_n 0, 1) := by decide +kernel
theorem dX3_init_5 : decode cX3_init 5 = .ok (.bipush 40, 2) := by decide +kernel
theorem dX3_init_7 : decode cX3_init 7 = .ok (.newarray .int, 2) := by decide +kernel
theorem dX3_init_9 : decode cX3_init 9 = .ok (.putfield 9, 3) := by decide +kernel
theorem dX3_init_12 : decode cX3_init 12 = .ok (.aload_n 0, 1) := by decide +kernel
theorem dX3_init_13 : decode cX3_init 13 = .ok (.iconst (-1), 1) := by decide +kernel
theorem dX3_init_14 : decode cX3_init 14 = .ok (.putfield 15, 3) := by decide +kernel
theorem dX3_init_17 : decode cX3_init 17 = .ok (.return_, 1) := by decide +kernel
theorem dX3_renew_0 : decode cX3_renew 0 = .ok (.aload_n 0, 1) := by decide +kernel
theorem dX3_renew_1 : decode cX3_renew 1 = .ok (.iload_n 1, 1) := by decide +kernel
theorem dX3_renew_2 : decode cX3_renew 2 = .ok (.putfield 19, 3) := by decide +kernel
theorem dX3_renew_5 : decode cX3_renew 5 = .ok (.aload_n 0, 1) := by decide +kernel
theorem dX3_renew_6 : decode cX3_renew 6 = .ok (.iload_n 2, 1) := by decide +kernel
theorem dX3_renew_7 : decode cX3_renew 7 = .ok (.putfield 15, 3) := by decide +kernel
theorem dX3_renew_10 : decode cX3_renew 10 = .ok (.iconst 0, 1) := by decide +kernel
theorem dX3_renew_11 : decode cX3_renew 11 = .ok (.istore_n 3, 1) := by decide +kernel
theorem dX3_renew_12 : decode cX3_renew 12 = .ok (.iload_n 3, 1) := by decide +kernel
theorem dX3_renew_13 : decode cX3_renew 13 = .ok (.bipush 40, 2) := by decide +kernel
theorem dX3_renew_15 : decode cX3_renew 15 = .ok (.if_icmp .ge 16, 3) := by decide +kernel
theorem dX3_renew_18 : decode cX3_renew 18 = .ok (.aload_n 0, 1) := by decide +kernel
theorem dX3_renew_19 : decode cX3_renew 19 = .ok (.getfield 9, 3) := by decide +kernel
theorem dX3_renew_22 : decode cX3_renew 22 = .ok (.iload_n 3, 1) := by decide +kernel
theorem dX3_renew_23 : decode cX3_renew 23 = .ok (.iconst 0, 1) := by decide +kernel
theorem dX3_renew_24 : decode cX3_renew 24 = .ok (.iastore, 1) := by decide +kernel
theorem dX3_renew_25 : decode cX3_renew 25 = .ok (.iinc 3 1, 3) := by decide +kernel
theorem dX3_renew_28 : decode cX3_renew 28 = .ok (.goto (-16), 3) := by decide +kernel
theorem dX3_renew_31 : decode cX3_renew 31 = .ok (.return_, 1) := by decide +kernel
theorem dX3_write_0 : decode cX3_write 0 = .ok (.aload_n 0, 1) := by decide +kernel
theorem dX3_write_1 : decode cX3_write 1 = .ok (.getfield 9, 3) := by decide +kernel
theorem dX3_write_4 : decode cX3_write 4 = .ok (.iload_n 1, 1) := by decide +kernel
theorem dX3_write_5 : decode cX3_write 5 = .ok (.aload_n 0, 1) := by decide +kernel
theorem dX3_write_6 : decode cX3_write 6 = .ok (.getfield 19, 3) := by decide +kernel
theorem dX3_write_9 : decode cX3_write 9 = .ok (.ifCond .ne 8, 3) := by decide +kernel
theorem dX3_write_12 : decode cX3_write 12 = .ok (.iload_n 2, 1) := by decide +kernel
theorem dX3_write_13 : decode cX3_write 13 = .ok (.i2b, 1) := by decide +kernel
theorem dX3_write_14 : decode cX3_write 14 = .ok (.goto 17, 3) := by decide +kernel
theorem dX3_write_17 : decode cX3_write 17 = .ok (.aload_n 0, 1) := by decide +kernel
theorem dX3_write_18 : decode cX3_write 18 = .ok (.getfield 19, 3) := by decide +kernel
theorem dX3_write_21 : decode cX3_write 21 = .ok (.iconst 1, 1) := by decide +kernel
theorem dX3_write_22 : decode cX3_write 22 = .ok (.if_icmp .ne 8, 3) := by decide +kernel
theorem dX3_write_25 : decode cX3_write 25 = .ok (.iload_n 2, 1) := by decide +kernel
theorem dX3_write_26 : decode cX3_write 26 = .ok (.i2s, 1) := by decide +kernel
theorem dX3_write_27 : decode cX3_write 27 = .ok (.goto 4, 3) := by decide +kernel
theorem dX3_write_30 : decode cX3_write 30 = .ok (.iload_n 2, 1) := by decide +kernel
theorem dX3_write_31 : decode cX3_write 31 = .ok (.iastore, 1) := by decide +kernel
theorem dX3_write_32 : decode cX3_write 32 = .ok (.return_, 1) := by decide +kernel
theorem dX3_faultAt_0 : decode cX3_faultAt 0 = .ok (.aload_n 0, 1) := by decide +kernel
theorem dX3_faultAt_1 : decode cX3_faultAt 1 = .ok (.getfield 15, 3) := by decide +kernel
theorem dX3_faultAt_4 : decode cX3_faultAt 4 = .ok (.ifCond .ge 5, 3) := by decide +kernel
theorem dX3_faultAt_7 : decode cX3_faultAt 7 = .ok (.iconst 1, 1) := by decide +kernel
theorem dX3_faultAt_8 : decode cX3_faultAt 8 = .ok (.ireturn, 1) := by decide +kernel
theorem dX3_faultAt_9 : decode cX3_faultAt 9 = .ok (.iload_n 1, 1) := by decide +kernel
theorem dX3_faultAt_10 : decode cX3_faultAt 10 = .ok (.aload_n 0, 1) := by decide +kernel
theorem dX3_faultAt_11 : decode cX3_faultAt 11 = .ok (.getfield 19, 3) := by decide +kernel
theorem dX3_faultAt_14 : decode cX3_faultAt 14 = .ok (.if_icmp .eq 5, 3) := by decide +kernel
theorem dX3_faultAt_17 : decode cX3_faultAt 17 = .ok (.iconst 3, 1) := by decide +kernel
theorem dX3_faultAt_18 : decode cX3_faultAt 18 = .ok (.ireturn, 1) := by decide +kernel
theorem dX3_faultAt_19 : decode cX3_faultAt 19 = .ok (.iload_n 2, 1) := by decide +kernel
theorem dX3_faultAt_20 : decode cX3_faultAt 20 = .ok (.ifCond .lt 11, 3) := by decide +kernel
theorem dX3_faultAt_23 : decode cX3_faultAt 23 = .ok (.iload_n 2, 1) := by decide +kernel
theorem dX3_faultAt_24 : decode cX3_faultAt 24 = .ok (.aload_n 0, 1) := by decide +kernel
theorem dX3_faultAt_25 : decode cX3_faultAt 25 = .ok (.getfield 15, 3) := by decide +kernel
theorem dX3_faultAt_28 : decode cX3_faultAt 28 = .ok (.if_icmp .lt 7, 3) := by decide +kernel
theorem dX3_faultAt_31 : decode cX3_faultAt 31 = .ok (.iconst 2, 1) := by decide +kernel
theorem dX3_faultAt_32 : decode cX3_faultAt 32 = .ok (.goto 4, 3) := by decide +kernel
theorem dX3_faultAt_35 : decode cX3_faultAt 35 = .ok (.iconst 0, 1) := by decide +kernel
theorem dX3_faultAt_36 : decode cX3_faultAt 36 = .ok (.ireturn, 1) := by decide +kernel
theorem dX3_faultOfTwo_0 : decode cX3_faultOfTwo 0 = .ok (.aload_n 0, 1) := by decide +kernel
theorem dX3_faultOfTwo_1 : decode cX3_faultOfTwo 1 = .ok (.iload_n 1, 1) := by decide +kernel
theorem dX3_faultOfTwo_2 : decode cX3_faultOfTwo 2 = .ok (.iload_n 2, 1) := by decide +kernel
theorem dX3_faultOfTwo_3 : decode cX3_faultOfTwo 3 = .ok (.invokevirtual 22, 3) := by decide +kernel
theorem dX3_faultOfTwo_6 : decode cX3_faultOfTwo 6 = .ok (.istore_n 3, 1) := by decide +kernel
theorem dX3_faultOfTwo_7 : decode cX3_faultOfTwo 7 = .ok (.iload_n 3, 1) := by decide +kernel
theorem dX3_faultOfTwo_8 : decode cX3_faultOfTwo 8 = .ok (.ifCond .eq 7, 3) := by decide +kernel
theorem dX3_faultOfTwo_11 : decode cX3_faultOfTwo 11 = .ok (.iload_n 3, 1) := by decide +kernel
theorem dX3_faultOfTwo_12 : decode cX3_faultOfTwo 12 = .ok (.goto 11, 3) := by decide +kernel
theorem dX3_faultOfTwo_15 : decode cX3_faultOfTwo 15 = .ok (.aload_n 0, 1) := by decide +kernel
theorem dX3_faultOfTwo_16 : decode cX3_faultOfTwo 16 = .ok (.iload_n 1, 1) := by decide +kernel
theorem dX3_faultOfTwo_17 : decode cX3_faultOfTwo 17 = .ok (.iload_n 2, 1) := by decide +kernel
theorem dX3_faultOfTwo_18 : decode cX3_faultOfTwo 18 = .ok (.iconst 1, 1) := by decide +kernel
theorem dX3_faultOfTwo_19 : decode cX3_faultOfTwo 19 = .ok (.iadd, 1) := by decide +kernel
theorem dX3_faultOfTwo_20 : decode cX3_faultOfTwo 20 = .ok (.invokevirtual 22, 3) := by decide +kernel
theorem dX3_faultOfTwo_23 : decode cX3_faultOfTwo 23 = .ok (.ireturn, 1) := by decide +kernel
theorem dX4_init_0 : decode cX4_init 0 = .ok (.aload_n 0, 1) := by decide +kernel
theorem dX4_init_1 : decode cX4_init 1 = .ok (.invokespecial 3, 3) := by decide +kernel
theorem dX4_init_4 : decode cX4_init 4 = .ok (.aload_n 0, 1) := by decide +kernel
theorem dX4_init_5 : decode cX4_init 5 = .ok (.sipush 320, 3) := by decide +kernel
theorem dX4_init_8 : decode cX4_init 8 = .ok (.newarray .byte, 2) := by decide +kernel
theorem dX4_init_10 : decode cX4_init 10 = .ok (.putfield 9, 3) := by decide +kernel
theorem dX4_init_13 : decode cX4_init 13 = .ok (.return_, 1) := by decide +kernel
theorem dX4_append_0 : decode cX4_append 0 = .ok (.aload_n 0, 1) := by decide +kernel
theorem dX4_append_1 : decode cX4_append 1 = .ok (.getfield 15, 3) := by decide +kernel
theorem dX4_append_4 : decode cX4_append 4 = .ok (.sipush 320, 3) := by decide +kernel
theorem dX4_append_7 : decode cX4_append 7 = .ok (.if_icmp .ge 24, 3) := by decide +kernel
theorem dX4_append_10 : decode cX4_append 10 = .ok (.aload_n 0, 1) := by decide +kernel
theorem dX4_append_11 : decode cX4_append 11 = .ok (.getfield 9, 3) := by decide +kernel
theorem dX4_append_14 : decode cX4_append 14 = .ok (.aload_n 0, 1) := by decide +kernel
theorem dX4_append_15 : decode cX4_append 15 = .ok (.getfield 15, 3) := by decide +kernel
theorem dX4_append_18 : decode cX4_append 18 = .ok (.iload_n 1, 1) := by decide +kernel
theorem dX4_append_19 : decode cX4_append 19 = .ok (.i2b, 1) := by decide +kernel
theorem dX4_append_20 : decode cX4_append 20 = .ok (.bastore, 1) := by decide +kernel
theorem dX4_append_21 : decode cX4_append 21 = .ok (.aload_n 0, 1) := by decide +kernel
theorem dX4_append_22 : decode cX4_append 22 = .ok (.dup, 1) := by decide +kernel
theorem dX4_append_23 : decode cX4_append 23 = .ok (.getfield 15, 3) := by decide +kernel
theorem dX4_append_26 : decode cX4_append 26 = .ok (.iconst 1, 1) := by decide +kernel
theorem dX4_append_27 : decode cX4_append 27 = .ok (.iadd, 1) := by decide +kernel
theorem dX4_append_28 : decode cX4_append 28 = .ok (.putfield 15, 3) := by decide +kernel
theorem dX4_append_31 : decode cX4_append 31 = .ok (.return_, 1) := by decide +kernel
theorem dX5_init_0 : decode cX5_init 0 = .ok (.aload_n 0, 1) := by decide +kernel
theorem dX5_init_1 : decode cX5_init 1 = .ok (.invokespecial 3, 3) := by decide +kernel
theorem dX5_init_4 : decode cX5_init 4 = .ok (.aload_n 0, 1) := by decide +kernel
theorem dX5_init_5 : decode cX5_init 5 = .ok (.new 9, 3) := by decide +kernel
theorem dX5_init_8 : decode cX5_init 8 = .ok (.dup, 1) := by decide +kernel
theorem dX5_init_9 : decode cX5_init 9 = .ok (.invokespecial 11, 3) := by decide +kernel
theorem dX5_init_12 : decode cX5_init 12 = .ok (.putfield 12, 3) := by decide +kernel
theorem dX5_init_15 : decode cX5_init 15 = .ok (.return_, 1) := by decide +kernel
theorem dX5_tell_0 : decode cX5_tell 0 = .ok (.aload_n 1, 1) := by decide +kernel
theorem dX5_tell_1 : decode cX5_tell 1 = .ok (.invokevirtual 18, 3) := by decide +kernel
theorem dX5_tell_4 : decode cX5_tell 4 = .ok (.aload_n 0, 1) := by decide +kernel
theorem dX5_tell_5 : decode cX5_tell 5 = .ok (.iconst 0, 1) := by decide +kernel
theorem dX5_tell_6 : decode cX5_tell 6 = .ok (.putfield 23, 3) := by decide +kernel
theorem dX5_tell_9 : decode cX5_tell 9 = .ok (.aload_n 0, 1) := by decide +kernel
theorem dX5_tell_10 : decode cX5_tell 10 = .ok (.iconst 0, 1) := by decide +kernel
theorem dX5_tell_11 : decode cX5_tell 11 = .ok (.putfield 27, 3) := by decide +kernel
theorem dX5_tell_14 : decode cX5_tell 14 = .ok (.aload_n 0, 1) := by decide +kernel
theorem dX5_tell_15 : decode cX5_tell 15 = .ok (.iconst 0, 1) := by decide +kernel
theorem dX5_tell_16 : decode cX5_tell 16 = .ok (.putfield 30, 3) := by decide +kernel
theorem dX5_tell_19 : decode cX5_tell 19 = .ok (.aload_n 0, 1) := by decide +kernel
theorem dX5_tell_20 : decode cX5_tell 20 = .ok (.iconst 0, 1) := by decide +kernel
theorem dX5_tell_21 : decode cX5_tell 21 = .ok (.putfield 33, 3) := by decide +kernel
theorem dX5_tell_24 : decode cX5_tell 24 = .ok (.aload_n 0, 1) := by decide +kernel
theorem dX5_tell_25 : decode cX5_tell 25 = .ok (.getfield 23, 3) := by decide +kernel
theorem dX5_tell_28 : decode cX5_tell 28 = .ok (.aload_n 0, 1) := by decide +kernel
theorem dX5_tell_29 : decode cX5_tell 29 = .ok (.getfield 12, 3) := by decide +kernel
theorem dX5_tell_32 : decode cX5_tell 32 = .ok (.getfield 36, 3) := by decide +kernel
theorem dX5_tell_35 : decode cX5_tell 35 = .ok (.if_icmp .gt 45, 3) := by decide +kernel
theorem dX5_tell_38 : decode cX5_tell 38 = .ok (.aload_n 0, 1) := by decide +kernel
theorem dX5_tell_39 : decode cX5_tell 39 = .ok (.invokevirtual 39, 3) := by decide +kernel
theorem dX5_tell_42 : decode cX5_tell 42 = .ok (.ifCond .ne 5, 3) := by decide +kernel
theorem dX5_tell_45 : decode cX5_tell 45 = .ok (.iconst 0, 1) := by decide +kernel
theorem dX5_tell_46 : decode cX5_tell 46 = .ok (.ireturn, 1) := by decide +kernel
theorem dX5_tell_47 : decode cX5_tell 47 = .ok (.aload_n 0, 1) := by decide +kernel
theorem dX5_tell_48 : decode cX5_tell 48 = .ok (.getfield 43, 3) := by decide +kernel
theorem dX5_tell_51 : decode cX5_tell 51 = .ok (.ifCond .ne 6, 3) := by decide +kernel
theorem dX5_tell_54 : decode cX5_tell 54 = .ok (.goto 26, 3) := by decide +kernel
theorem dX5_tell_57 : decode cX5_tell 57 = .ok (.aload_n 0, 1) := by decide +kernel
theorem dX5_tell_58 : decode cX5_tell 58 = .ok (.aload_n 1, 1) := by decide +kernel
theorem dX5_tell_59 : decode cX5_tell 59 = .ok (.invokevirtual 46, 3) := by decide +kernel
theorem dX5_tell_62 : decode cX5_tell 62 = .ok (.ifCond .ne 5, 3) := by decide +kernel
theorem dX5_tell_65 : decode cX5_tell 65 = .ok (.iconst 0, 1) := by decide +kernel
theorem dX5_tell_66 : decode cX5_tell 66 = .ok (.ireturn, 1) := by decide +kernel
theorem dX5_tell_67 : decode cX5_tell 67 = .ok (.aload_n 0, 1) := by decide +kernel
theorem dX5_tell_68 : decode cX5_tell 68 = .ok (.dup, 1) := by decide +kernel
theorem dX5_tell_69 : decode cX5_tell 69 = .ok (.getfield 23, 3) := by decide +kernel
theorem dX5_tell_72 : decode cX5_tell 72 = .ok (.iconst 1, 1) := by decide +kernel
theorem dX5_tell_73 : decode cX5_tell 73 = .ok (.iadd, 1) := by decide +kernel
theorem dX5_tell_74 : decode cX5_tell 74 = .ok (.putfield 23, 3) := by decide +kernel
theorem dX5_tell_77 : decode cX5_tell 77 = .ok (.goto (-53), 3) := by decide +kernel
theorem dX5_tell_80 : decode cX5_tell 80 = .ok (.aload_n 1, 1) := by decide +kernel
theorem dX5_tell_81 : decode cX5_tell 81 = .ok (.invokevirtual 50, 3) := by decide +kernel
theorem dX5_tell_84 : decode cX5_tell 84 = .ok (.ifCond .ne 19, 3) := by decide +kernel
theorem dX5_tell_87 : decode cX5_tell 87 = .ok (.aload_n 0, 1) := by decide +kernel
theorem dX5_tell_88 : decode cX5_tell 88 = .ok (.bipush 6, 2) := by decide +kernel
theorem dX5_tell_90 : decode cX5_tell 90 = .ok (.aload_n 0, 1) := by decide +kernel
theorem dX5_tell_91 : decode cX5_tell 91 = .ok (.getfield 12, 3) := by decide +kernel
theorem dX5_tell_94 : decode cX5_tell 94 = .ok (.getfield 36, 3) := by decide +kernel
theorem dX5_tell_97 : decode cX5_tell 97 = .ok (.invokevirtual 53, 3) := by decide +kernel
theorem dX5_tell_100 : decode cX5_tell 100 = .ok (.ifCond .eq 7, 3) := by decide +kernel
theorem dX5_tell_103 : decode cX5_tell 103 = .ok (.iconst 1, 1) := by decide +kernel
theorem dX5_tell_104 : decode cX5_tell 104 = .ok (.goto 4, 3) := by decide +kernel
theorem dX5_tell_107 : decode cX5_tell 107 = .ok (.iconst 0, 1) := by decide +kernel
theorem dX5_tell_108 : decode cX5_tell 108 = .ok (.ireturn, 1) := by decide +kernel
theorem dX5_fail_0 : decode cX5_fail 0 = .ok (.aload_n 0, 1) := by decide +kernel
theorem dX5_fail_1 : decode cX5_fail 1 = .ok (.iload_n 1, 1) := by decide +kernel
theorem dX5_fail_2 : decode cX5_fail 2 = .ok (.putfield 27, 3) := by decide +kernel
theorem dX5_fail_5 : decode cX5_fail 5 = .ok (.aload_n 0, 1) := by decide +kernel
theorem dX5_fail_6 : decode cX5_fail 6 = .ok (.iload_n 2, 1) := by decide +kernel
theorem dX5_fail_7 : decode cX5_fail 7 = .ok (.putfield 30, 3) := by decide +kernel
theorem dX5_fail_10 : decode cX5_fail 10 = .ok (.iconst 0, 1) := by decide +kernel
theorem dX5_fail_11 : decode cX5_fail 11 = .ok (.ireturn, 1) := by decide +kernel
theorem dX5_line_0 : decode cX5_line 0 = .ok (.aload_n 0, 1) := by decide +kernel
theorem dX5_line_1 : decode cX5_line 1 = .ok (.getfield 43, 3) := by decide +kernel
theorem dX5_line_4 : decode cX5_line 4 = .ok (.iconst 1, 1) := by decide +kernel
theorem dX5_line_5 : decode cX5_line 5 = .ok (.if_icmp .ne 19, 3) := by decide +kernel
theorem dX5_line_8 : decode cX5_line 8 = .ok (.aload_n 0, 1) := by decide +kernel
theorem dX5_line_9 : decode cX5_line 9 = .ok (.ldc 57, 2) := by decide +kernel
theorem dX5_line_11 : decode cX5_line 11 = .ok (.invokevirtual 59, 3) := by decide +kernel
theorem dX5_line_14 : decode cX5_line 14 = .ok (.ifCond .eq 10, 3) := by decide +kernel
theorem dX5_line_17 : decode cX5_line 17 = .ok (.aload_n 0, 1) := by decide +kernel
theorem dX5_line_18 : decode cX5_line 18 = .ok (.aload_n 1, 1) := by decide +kernel
theorem dX5_line_19 : decode cX5_line 19 = .ok (.iconst 0, 1) := by decide +kernel
theorem dX5_line_20 : decode cX5_line 20 = .ok (.invokevirtual 63, 3) := by decide +kernel
theorem dX5_line_23 : decode cX5_line 23 = .ok (.ireturn, 1) := by decide +kernel
theorem dX5_line_24 : decode cX5_line 24 = .ok (.aload_n 0, 1) := by decide +kernel
theorem dX5_line_25 : decode cX5_line 25 = .ok (.getfield 43, 3) := by decide +kernel
theorem dX5_line_28 : decode cX5_line 28 = .ok (.iconst 1, 1) := by decide +kernel
theorem dX5_line_29 : decode cX5_line 29 = .ok (.if_icmp .ne 19, 3) := by decide +kernel
theorem dX5_line_32 : decode cX5_line 32 = .ok (.aload_n 0, 1) := by decide +kernel
theorem dX5_line_33 : decode cX5_line 33 = .ok (.ldc 67, 2) := by decide +kernel
theorem dX5_line_35 : decode cX5_line 35 = .ok (.invokevirtual 59, 3) := by decide +kernel
theorem dX5_line_38 : decode cX5_line 38 = .ok (.ifCond .eq 10, 3) := by decide +kernel
theorem dX5_line_41 : decode cX5_line 41 = .ok (.aload_n 0, 1) := by decide +kernel
theorem dX5_line_42 : decode cX5_line 42 = .ok (.aload_n 1, 1) := by decide +kernel
theorem dX5_line_43 : decode cX5_line 43 = .ok (.iconst 1, 1) := by decide +kernel
theorem dX5_line_44 : decode cX5_line 44 = .ok (.invokevirtual 63, 3) := by decide +kernel
theorem dX5_line_47 : decode cX5_line 47 = .ok (.ireturn, 1) := by decide +kernel
theorem dX5_line_48 : decode cX5_line 48 = .ok (.aload_n 0, 1) := by decide +kernel
theorem dX5_line_49 : decode cX5_line 49 = .ok (.getfield 43, 3) := by decide +kernel
theorem dX5_line_52 : decode cX5_line 52 = .ok (.iconst 1, 1) := by decide +kernel
theorem dX5_line_53 : decode cX5_line 53 = .ok (.if_icmp .ne 18, 3) := by decide +kernel
theorem dX5_line_56 : decode cX5_line 56 = .ok (.aload_n 0, 1) := by decide +kernel
theorem dX5_line_57 : decode cX5_line 57 = .ok (.ldc 69, 2) := by decide +kernel
theorem dX5_line_59 : decode cX5_line 59 = .ok (.invokevirtual 59, 3) := by decide +kernel
theorem dX5_line_62 : decode cX5_line 62 = .ok (.ifCond .eq 9, 3) := by decide +kernel
theorem dX5_line_65 : decode cX5_line 65 = .ok (.aload_n 0, 1) := by decide +kernel
theorem dX5_line_66 : decode cX5_line 66 = .ok (.aload_n 1, 1) := by decide +kernel
theorem dX5_line_67 : decode cX5_line 67 = .ok (.invokevirtual 71, 3) := by decide +kernel
theorem dX5_line_70 : decode cX5_line 70 = .ok (.ireturn, 1) := by decide +kernel
theorem dX5_line_71 : decode cX5_line 71 = .ok (.aload_n 0, 1) := by decide +kernel
theorem dX5_line_72 : decode cX5_line 72 = .ok (.getfield 43, 3) := by decide +kernel
theorem dX5_line_75 : decode cX5_line 75 = .ok (.iconst 1, 1) := by decide +kernel
theorem dX5_line_76 : decode cX5_line 76 = .ok (.if_icmp .ne 19, 3) := by decide +kernel
theorem dX5_line_79 : decode cX5_line 79 = .ok (.aload_n 0, 1) := by decide +kernel
theorem dX5_line_80 : decode cX5_line 80 = .ok (.ldc 74, 2) := by decide +kernel
theorem dX5_line_82 : decode cX5_line 82 = .ok (.invokevirtual 59, 3) := by decide +kernel
theorem dX5_line_85 : decode cX5_line 85 = .ok (.ifCond .eq 10, 3) := by decide +kernel
theorem dX5_line_88 : decode cX5_line 88 = .ok (.aload_n 0, 1) := by decide +kernel
theorem dX5_line_89 : decode cX5_line 89 = .ok (.aload_n 1, 1) := by decide +kernel
theorem dX5_line_90 : decode cX5_line 90 = .ok (.iconst 1, 1) := by decide +kernel
theorem dX5_line_91 : decode cX5_line 91 = .ok (.invokevirtual 76, 3) := by decide +kernel
theorem dX5_line_94 : decode cX5_line 94 = .ok (.ireturn, 1) := by decide +kernel
theorem dX5_line_95 : decode cX5_line 95 = .ok (.aload_n 0, 1) := by decide +kernel
theorem dX5_line_96 : decode cX5_line 96 = .ok (.getfield 43, 3) := by decide +kernel
theorem dX5_line_99 : decode cX5_line 99 = .ok (.iconst 1, 1) := by decide +kernel
theorem dX5_line_100 : decode cX5_line 100 = .ok (.if_icmp .ne 19, 3) := by decide +kernel
theorem dX5_line_103 : decode cX5_line 103 = .ok (.aload_n 0, 1) := by decide +kernel
theorem dX5_line_104 : decode cX5_line 104 = .ok (.ldc 79, 2) := by decide +kernel
theorem dX5_line_106 : decode cX5_line 106 = .ok (.invokevirtual 59, 3) := by decide +kernel
theorem dX5_line_109 : decode cX5_line 109 = .ok (.ifCond .eq 10, 3) := by decide +kernel
theorem dX5_line_112 : decode cX5_line 112 = .ok (.aload_n 0, 1) := by decide +kernel
theorem dX5_line_113 : decode cX5_line 113 = .ok (.aload_n 1, 1) := by decide +kernel
theorem dX5_line_114 : decode cX5_line 114 = .ok (.iconst 0, 1) := by decide +kernel
theorem dX5_line_115 : decode cX5_line 115 = .ok (.invokevirtual 76, 3) := by decide +kernel
theorem dX5_line_118 : decode cX5_line 118 = .ok (.ireturn, 1) := by decide +kernel
theorem dX5_line_119 : decode cX5_line 119 = .ok (.aload_n 0, 1) := by decide +kernel
theorem dX5_line_120 : decode cX5_line 120 = .ok (.iconst 2, 1) := by decide +kernel
theorem dX5_line_121 : decode cX5_line 121 = .ok (.aload_n 0, 1) := by decide +kernel
theorem dX5_line_122 : decode cX5_line 122 = .ok (.getfield 81, 3) := by decide +kernel
theorem dX5_line_125 : decode cX5_line 125 = .ok (.invokevirtual 53, 3) := by decide +kernel
theorem dX5_line_128 : decode cX5_line 128 = .ok (.ireturn, 1) := by decide +kernel
theorem dX5_jointLine_0 : decode cX5_jointLine 0 = .ok (.aload_n 1, 1) := by decide +kernel
theorem dX5_jointLine_1 : decode cX5_jointLine 1 = .ok (.getfield 84, 3) := by decide +kernel
theorem dX5_jointLine_4 : decode cX5_jointLine 4 = .ok (.bipush 6, 2) := by decide +kernel
theorem dX5_jointLine_6 : decode cX5_jointLine 6 = .ok (.if_icmp .ge 15, 3) := by decide +kernel
theorem dX5_jointLine_9 : decode cX5_jointLine 9 = .ok (.iload_n 2, 1) := by decide +kernel
theorem dX5_jointLine_10 : decode cX5_jointLine 10 = .ok (.ifCond .ne 21, 3) := by decide +kernel
theorem dX5_jointLine_13 : decode cX5_jointLine 13 = .ok (.aload_n 1, 1) := by decide +kernel
theorem dX5_jointLine_14 : decode cX5_jointLine 14 = .ok (.invokevirtual 87, 3) := by decide +kernel
theorem dX5_jointLine_17 : decode cX5_jointLine 17 = .ok (.iconst 4, 1) := by decide +kernel
theorem dX5_jointLine_18 : decode cX5_jointLine 18 = .ok (.if_icmp .lt 13, 3) := by decide +kernel
theorem dX5_jointLine_21 : decode cX5_jointLine 21 = .ok (.aload_n 0, 1) := by decide +kernel
theorem dX5_jointLine_22 : decode cX5_jointLine 22 = .ok (.iconst 5, 1) := by decide +kernel
theorem dX5_jointLine_23 : decode cX5_jointLine 23 = .ok (.aload_n 0, 1) := by decide +kernel
theorem dX5_jointLine_24 : decode cX5_jointLine 24 = .ok (.getfield 81, 3) := by decide +kernel
theorem dX5_jointLine_27 : decode cX5_jointLine 27 = .ok (.invokevirtual 53, 3) := by decide +kernel
theorem dX5_jointLine_30 : decode cX5_jointLine 30 = .ok (.ireturn, 1) := by decide +kernel
theorem dX5_jointLine_31 : decode cX5_jointLine 31 = .ok (.aload_n 0, 1) := by decide +kernel
theorem dX5_jointLine_32 : decode cX5_jointLine 32 = .ok (.invokevirtual 39, 3) := by decide +kernel
theorem dX5_jointLine_35 : decode cX5_jointLine 35 = .ok (.ifCond .ne 5, 3) := by decide +kernel
theorem dX5_jointLine_38 : decode cX5_jointLine 38 = .ok (.iconst 0, 1) := by decide +kernel
theorem dX5_jointLine_39 : decode cX5_jointLine 39 = .ok (.ireturn, 1) := by decide +kernel
theorem dX5_jointLine_40 : decode cX5_jointLine 40 = .ok (.aload_n 0, 1) := by decide +kernel
theorem dX5_jointLine_41 : decode cX5_jointLine 41 = .ok (.getfield 43, 3) := by decide +kernel
theorem dX5_jointLine_44 : decode cX5_jointLine 44 = .ok (.iconst 3, 1) := by decide +kernel
theorem dX5_jointLine_45 : decode cX5_jointLine 45 = .ok (.if_icmp .ne 7, 3) := by decide +kernel
theorem dX5_jointLine_48 : decode cX5_jointLine 48 = .ok (.iconst 1, 1) := by decide +kernel
theorem dX5_jointLine_49 : decode cX5_jointLine 49 = .ok (.goto 4, 3) := by decide +kernel
theorem dX5_jointLine_52 : decode cX5_jointLine 52 = .ok (.iconst 0, 1) := by decide +kernel
theorem dX5_jointLine_53 : decode cX5_jointLine 53 = .ok (.istore_n 3, 1) := by decide +kernel
theorem dX5_jointLine_54 : decode cX5_jointLine 54 = .ok (.iload_n 3, 1) := by decide +kernel
theorem dX5_jointLine_55 : decode cX5_jointLine 55 = .ok (.ifCond .eq 12, 3) := by decide +kernel
theorem dX5_jointLine_58 : decode cX5_jointLine 58 = .ok (.aload_n 0, 1) := by decide +kernel
theorem dX5_jointLine_59 : decode cX5_jointLine 59 = .ok (.invokevirtual 39, 3) := by decide +kernel
theorem dX5_jointLine_62 : decode cX5_jointLine 62 = .ok (.ifCond .ne 5, 3) := by decide +kernel
theorem dX5_jointLine_65 : decode cX5_jointLine 65 = .ok (.iconst 0, 1) := by decide +kernel
theorem dX5_jointLine_66 : decode cX5_jointLine 66 = .ok (.ireturn, 1) := by decide +kernel
theorem dX5_jointLine_67 : decode cX5_jointLine 67 = .ok (.aload_n 0, 1) := by decide +kernel
theorem dX5_jointLine_68 : decode cX5_jointLine 68 = .ok (.iconst 0, 1) := by decide +kernel
theorem dX5_jointLine_69 : decode cX5_jointLine 69 = .ok (.sipush 9999, 3) := by decide +kernel
theorem dX5_jointLine_72 : decode cX5_jointLine 72 = .ok (.invokevirtual 91, 3) := by decide +kernel
theorem dX5_jointLine_75 : decode cX5_jointLine 75 = .ok (.ifCond .ne 5, 3) := by decide +kernel
theorem dX5_jointLine_78 : decode cX5_jointLine 78 = .ok (.iconst 0, 1) := by decide +kernel
theorem dX5_jointLine_79 : decode cX5_jointLine 79 = .ok (.ireturn, 1) := by decide +kernel
theorem dX5_jointLine_80 : decode cX5_jointLine 80 = .ok (.iload_n 3, 1) := by decide +kernel
theorem dX5_jointLine_81 : decode cX5_jointLine 81 = .ok (.ifCond .eq 11, 3) := by decide +kernel
theorem dX5_jointLine_84 : decode cX5_jointLine 84 = .ok (.aload_n 0, 1) := by decide +kernel
theorem dX5_jointLine_85 : decode cX5_jointLine 85 = .ok (.getfield 94, 3) := by decide +kernel
theorem dX5_jointLine_88 : decode cX5_jointLine 88 = .ok (.ineg, 1) := by decide +kernel
theorem dX5_jointLine_89 : decode cX5_jointLine 89 = .ok (.goto 7, 3) := by decide +kernel
theorem dX5_jointLine_92 : decode cX5_jointLine 92 = .ok (.aload_n 0, 1) := by decide +kernel
theorem dX5_jointLine_93 : decode cX5_jointLine 93 = .ok (.getfield 94, 3) := by decide +kernel
theorem dX5_jointLine_96 : decode cX5_jointLine 96 = .ok (.istore 4, 2) := by decide +kernel
theorem dX5_jointLine_98 : decode cX5_jointLine 98 = .ok (.aload_n 0, 1) := by decide +kernel
theorem dX5_jointLine_99 : decode cX5_jointLine 99 = .ok (.invokevirtual 97, 3) := by decide +kernel
theorem dX5_jointLine_102 : decode cX5_jointLine 102 = .ok (.ifCond .ne 5, 3) := by decide +kernel
theorem dX5_jointLine_105 : decode cX5_jointLine 105 = .ok (.iconst 0, 1) := by decide +kernel
theorem dX5_jointLine_106 : decode cX5_jointLine 106 = .ok (.ireturn, 1) := by decide +kernel
theorem dX5_jointLine_107 : decode cX5_jointLine 107 = .ok (.aload_n 1, 1) := by decide +kernel
theorem dX5_jointLine_108 : decode cX5_jointLine 108 = .ok (.iload_n 2, 1) := by decide +kernel
theorem dX5_jointLine_109 : decode cX5_jointLine 109 = .ok (.iload 4, 2) := by decide +kernel
theorem dX5_jointLine_111 : decode cX5_jointLine 111 = .ok (.invokevirtual 100, 3) := by decide +kernel
theorem dX5_jointLine_114 : decode cX5_jointLine 114 = .ok (.iconst 1, 1) := by decide +kernel
theorem dX5_jointLine_115 : decode cX5_jointLine 115 = .ok (.ireturn, 1) := by decide +kernel
theorem dX5_beamLine_0 : decode cX5_beamLine 0 = .ok (.aload_n 1, 1) := by decide +kernel
theorem dX5_beamLine_1 : decode cX5_beamLine 1 = .ok (.getfield 104, 3) := by decide +kernel
theorem dX5_beamLine_4 : decode cX5_beamLine 4 = .ok (.bipush 10, 2) := by decide +kernel
theorem dX5_beamLine_6 : decode cX5_beamLine 6 = .ok (.if_icmp .lt 13, 3) := by decide +kernel
theorem dX5_beamLine_9 : decode cX5_beamLine 9 = .ok (.aload_n 0, 1) := by decide +kernel
theorem dX5_beamLine_10 : decode cX5_beamLine 10 = .ok (.iconst 5, 1) := by decide +kernel
theorem dX5_beamLine_11 : decode cX5_beamLine 11 = .ok (.aload_n 0, 1) := by decide +kernel
theorem dX5_beamLine_12 : decode cX5_beamLine 12 = .ok (.getfield 81, 3) := by decide +kernel
theorem dX5_beamLine_15 : decode cX5_beamLine 15 = .ok (.invokevirtual 53, 3) := by decide +kernel
theorem dX5_beamLine_18 : decode cX5_beamLine 18 = .ok (.ireturn, 1) := by decide +kernel
theorem dX5_beamLine_19 : decode cX5_beamLine 19 = .ok (.aload_n 0, 1) := by decide +kernel
theorem dX5_beamLine_20 : decode cX5_beamLine 20 = .ok (.iconst 0, 1) := by decide +kernel
theorem dX5_beamLine_21 : decode cX5_beamLine 21 = .ok (.iconst 5, 1) := by decide +kernel
theorem dX5_beamLine_22 : decode cX5_beamLine 22 = .ok (.invokevirtual 107, 3) := by decide +kernel
theorem dX5_beamLine_25 : decode cX5_beamLine 25 = .ok (.ifCond .ne 5, 3) := by decide +kernel
theorem dX5_beamLine_28 : decode cX5_beamLine 28 = .ok (.iconst 0, 1) := by decide +kernel
theorem dX5_beamLine_29 : decode cX5_beamLine 29 = .ok (.ireturn, 1) := by decide +kernel
theorem dX5_beamLine_30 : decode cX5_beamLine 30 = .ok (.aload_n 0, 1) := by decide +kernel
theorem dX5_beamLine_31 : decode cX5_beamLine 31 = .ok (.getfield 94, 3) := by decide +kernel
theorem dX5_beamLine_34 : decode cX5_beamLine 34 = .ok (.istore_n 2, 1) := by decide +kernel
theorem dX5_beamLine_35 : decode cX5_beamLine 35 = .ok (.aload_n 0, 1) := by decide +kernel
theorem dX5_beamLine_36 : decode cX5_beamLine 36 = .ok (.iconst 0, 1) := by decide +kernel
theorem dX5_beamLine_37 : decode cX5_beamLine 37 = .ok (.iconst 5, 1) := by decide +kernel
theorem dX5_beamLine_38 : decode cX5_beamLine 38 = .ok (.invokevirtual 107, 3) := by decide +kernel
theorem dX5_beamLine_41 : decode cX5_beamLine 41 = .ok (.ifCond .ne 5, 3) := by decide +kernel
theorem dX5_beamLine_44 : decode cX5_beamLine 44 = .ok (.iconst 0, 1) := by decide +kernel
theorem dX5_beamLine_45 : decode cX5_beamLine 45 = .ok (.ireturn, 1) := by decide +kernel
theorem dX5_beamLine_46 : decode cX5_beamLine 46 = .ok (.aload_n 0, 1) := by decide +kernel
theorem dX5_beamLine_47 : decode cX5_beamLine 47 = .ok (.getfield 94, 3) := by decide +kernel
theorem dX5_beamLine_50 : decode cX5_beamLine 50 = .ok (.istore_n 3, 1) := by decide +kernel
theorem dX5_beamLine_51 : decode cX5_beamLine 51 = .ok (.iload_n 3, 1) := by decide +kernel
theorem dX5_beamLine_52 : decode cX5_beamLine 52 = .ok (.iload_n 2, 1) := by decide +kernel
theorem dX5_beamLine_53 : decode cX5_beamLine 53 = .ok (.if_icmp .ne 13, 3) := by decide +kernel
theorem dX5_beamLine_56 : decode cX5_beamLine 56 = .ok (.aload_n 0, 1) := by decide +kernel
theorem dX5_beamLine_57 : decode cX5_beamLine 57 = .ok (.iconst 4, 1) := by decide +kernel
theorem dX5_beamLine_58 : decode cX5_beamLine 58 = .ok (.aload_n 0, 1) := by decide +kernel
theorem dX5_beamLine_59 : decode cX5_beamLine 59 = .ok (.getfield 81, 3) := by decide +kernel
theorem dX5_beamLine_62 : decode cX5_beamLine 62 = .ok (.invokevirtual 53, 3) := by decide +kernel
theorem dX5_beamLine_65 : decode cX5_beamLine 65 = .ok (.ireturn, 1) := by decide +kernel
theorem dX5_beamLine_66 : decode cX5_beamLine 66 = .ok (.aload_n 0, 1) := by decide +kernel
theorem dX5_beamLine_67 : decode cX5_beamLine 67 = .ok (.iconst 1, 1) := by decide +kernel
theorem dX5_beamLine_68 : decode cX5_beamLine 68 = .ok (.bipush 12, 2) := by decide +kernel
theorem dX5_beamLine_70 : decode cX5_beamLine 70 = .ok (.invokevirtual 107, 3) := by decide +kernel
theorem dX5_beamLine_73 : decode cX5_beamLine 73 = .ok (.ifCond .ne 5, 3) := by decide +kernel
theorem dX5_beamLine_76 : decode cX5_beamLine 76 = .ok (.iconst 0, 1) := by decide +kernel
theorem dX5_beamLine_77 : decode cX5_beamLine 77 = .ok (.ireturn, 1) := by decide +kernel
theorem dX5_beamLine_78 : decode cX5_beamLine 78 = .ok (.aload_n 0, 1) := by decide +kernel
theorem dX5_beamLine_79 : decode cX5_beamLine 79 = .ok (.getfield 94, 3) := by decide +kernel
theorem dX5_beamLine_82 : decode cX5_beamLine 82 = .ok (.istore 4, 2) := by decide +kernel
theorem dX5_beamLine_84 : decode cX5_beamLine 84 = .ok (.iload 4, 2) := by decide +kernel
theorem dX5_beamLine_86 : decode cX5_beamLine 86 = .ok (.iconst 1, 1) := by decide +kernel
theorem dX5_beamLine_87 : decode cX5_beamLine 87 = .ok (.if_icmp .lt 11, 3) := by decide +kernel
theorem dX5_beamLine_90 : decode cX5_beamLine 90 = .ok (.bipush 12, 2) := by decide +kernel
theorem dX5_beamLine_92 : decode cX5_beamLine 92 = .ok (.iload 4, 2) := by decide +kernel
theorem dX5_beamLine_94 : decode cX5_beamLine 94 = .ok (.irem, 1) := by decide +kernel
theorem dX5_beamLine_95 : decode cX5_beamLine 95 = .ok (.ifCond .eq 13, 3) := by decide +kernel
theorem dX5_beamLine_98 : decode cX5_beamLine 98 = .ok (.aload_n 0, 1) := by decide +kernel
theorem dX5_beamLine_99 : decode cX5_beamLine 99 = .ok (.iconst 3, 1) := by decide +kernel
theorem dX5_beamLine_100 : decode cX5_beamLine 100 = .ok (.aload_n 0, 1) := by decide +kernel
theorem dX5_beamLine_101 : decode cX5_beamLine 101 = .ok (.getfield 81, 3) := by decide +kernel
theorem dX5_beamLine_104 : decode cX5_beamLine 104 = .ok (.invokevirtual 53, 3) := by decide +kernel
theorem dX5_beamLine_107 : decode cX5_beamLine 107 = .ok (.ireturn, 1) := by decide +kernel
theorem dX5_beamLine_108 : decode cX5_beamLine 108 = .ok (.aload_n 0, 1) := by decide +kernel
theorem dX5_beamLine_109 : decode cX5_beamLine 109 = .ok (.iconst 1, 1) := by decide +kernel
theorem dX5_beamLine_110 : decode cX5_beamLine 110 = .ok (.bipush 10, 2) := by decide +kernel
theorem dX5_beamLine_112 : decode cX5_beamLine 112 = .ok (.invokevirtual 107, 3) := by decide +kernel
theorem dX5_beamLine_115 : decode cX5_beamLine 115 = .ok (.ifCond .ne 5, 3) := by decide +kernel
theorem dX5_beamLine_118 : decode cX5_beamLine 118 = .ok (.iconst 0, 1) := by decide +kernel
theorem dX5_beamLine_119 : decode cX5_beamLine 119 = .ok (.ireturn, 1) := by decide +kernel
theorem dX5_beamLine_120 : decode cX5_beamLine 120 = .ok (.aload_n 0, 1) := by decide +kernel
theorem dX5_beamLine_121 : decode cX5_beamLine 121 = .ok (.getfield 94, 3) := by decide +kernel
theorem dX5_beamLine_124 : decode cX5_beamLine 124 = .ok (.istore 5, 2) := by decide +kernel
theorem dX5_beamLine_126 : decode cX5_beamLine 126 = .ok (.aload_n 0, 1) := by decide +kernel
theorem dX5_beamLine_127 : decode cX5_beamLine 127 = .ok (.invokevirtual 97, 3) := by decide +kernel
theorem dX5_beamLine_130 : decode cX5_beamLine 130 = .ok (.ifCond .ne 5, 3) := by decide +kernel
theorem dX5_beamLine_133 : decode cX5_beamLine 133 = .ok (.iconst 0, 1) := by decide +kernel
theorem dX5_beamLine_134 : decode cX5_beamLine 134 = .ok (.ireturn, 1) := by decide +kernel
theorem dX5_beamLine_135 : decode cX5_beamLine 135 = .ok (.aload_n 1, 1) := by decide +kernel
theorem dX5_beamLine_136 : decode cX5_beamLine 136 = .ok (.iload_n 2, 1) := by decide +kernel
theorem dX5_beamLine_137 : decode cX5_beamLine 137 = .ok (.iload_n 3, 1) := by decide +kernel
theorem dX5_beamLine_138 : decode cX5_beamLine 138 = .ok (.iload 4, 2) := by decide +kernel
theorem dX5_beamLine_140 : decode cX5_beamLine 140 = .ok (.iload 5, 2) := by decide +kernel
theorem dX5_beamLine_142 : decode cX5_beamLine 142 = .ok (.invokevirtual 110, 3) := by decide +kernel
theorem dX5_beamLine_145 : decode cX5_beamLine 145 = .ok (.iconst 1, 1) := by decide +kernel
theorem dX5_beamLine_146 : decode cX5_beamLine 146 = .ok (.ireturn, 1) := by decide +kernel
theorem dX5_loadLine_0 : decode cX5_loadLine 0 = .ok (.aload_n 1, 1) := by decide +kernel
theorem dX5_loadLine_1 : decode cX5_loadLine 1 = .ok (.getfield 114, 3) := by decide +kernel
theorem dX5_loadLine_4 : decode cX5_loadLine 4 = .ok (.bipush 8, 2) := by decide +kernel
theorem dX5_loadLine_6 : decode cX5_loadLine 6 = .ok (.if_icmp .lt 13, 3) := by decide +kernel
theorem dX5_loadLine_9 : decode cX5_loadLine 9 = .ok (.aload_n 0, 1) := by decide +kernel
theorem dX5_loadLine_10 : decode cX5_loadLine 10 = .ok (.iconst 5, 1) := by decide +kernel
theorem dX5_loadLine_11 : decode cX5_loadLine 11 = .ok (.aload_n 0, 1) := by decide +kernel
theorem dX5_loadLine_12 : decode cX5_loadLine 12 = .ok (.getfield 81, 3) := by decide +kernel
theorem dX5_loadLine_15 : decode cX5_loadLine 15 = .ok (.invokevirtual 53, 3) := by decide +kernel
theorem dX5_loadLine_18 : decode cX5_loadLine 18 = .ok (.ireturn, 1) := by decide +kernel
theorem dX5_loadLine_19 : decode cX5_loadLine 19 = .ok (.aload_n 0, 1) := by decide +kernel
theorem dX5_loadLine_20 : decode cX5_loadLine 20 = .ok (.iconst 0, 1) := by decide +kernel
theorem dX5_loadLine_21 : decode cX5_loadLine 21 = .ok (.bipush 9, 2) := by decide +kernel
theorem dX5_loadLine_23 : decode cX5_loadLine 23 = .ok (.invokevirtual 107, 3) := by decide +kernel
theorem dX5_loadLine_26 : decode cX5_loadLine 26 = .ok (.ifCond .ne 5, 3) := by decide +kernel
theorem dX5_loadLine_29 : decode cX5_loadLine 29 = .ok (.iconst 0, 1) := by decide +kernel
theorem dX5_loadLine_30 : decode cX5_loadLine 30 = .ok (.ireturn, 1) := by decide +kernel
theorem dX5_loadLine_31 : decode cX5_loadLine 31 = .ok (.aload_n 0, 1) := by decide +kernel
theorem dX5_loadLine_32 : decode cX5_loadLine 32 = .ok (.getfield 94, 3) := by decide +kernel
theorem dX5_loadLine_35 : decode cX5_loadLine 35 = .ok (.istore_n 3, 1) := by decide +kernel
theorem dX5_loadLine_36 : decode cX5_loadLine 36 = .ok (.aload_n 0, 1) := by decide +kernel
theorem dX5_loadLine_37 : decode cX5_loadLine 37 = .ok (.iconst 1, 1) := by decide +kernel
theorem dX5_loadLine_38 : decode cX5_loadLine 38 = .ok (.iload_n 2, 1) := by decide +kernel
theorem dX5_loadLine_39 : decode cX5_loadLine 39 = .ok (.ifCond .eq 9, 3) := by decide +kernel
theorem dX5_loadLine_42 : decode cX5_loadLine 42 = .ok (.sipush 999, 3) := by decide +kernel
theorem dX5_loadLine_45 : decode cX5_loadLine 45 = .ok (.goto 5, 3) := by decide +kernel
theorem dX5_loadLine_48 : decode cX5_loadLine 48 = .ok (.bipush 99, 2) := by decide +kernel
theorem dX5_loadLine_50 : decode cX5_loadLine 50 = .ok (.invokevirtual 107, 3) := by decide +kernel
theorem dX5_loadLine_53 : decode cX5_loadLine 53 = .ok (.ifCond .ne 5, 3) := by decide +kernel
theorem dX5_loadLine_56 : decode cX5_loadLine 56 = .ok (.iconst 0, 1) := by decide +kernel
theorem dX5_loadLine_57 : decode cX5_loadLine 57 = .ok (.ireturn, 1) := by decide +kernel
theorem dX5_loadLine_58 : decode cX5_loadLine 58 = .ok (.aload_n 0, 1) := by decide +kernel
theorem dX5_loadLine_59 : decode cX5_loadLine 59 = .ok (.getfield 94, 3) := by decide +kernel
theorem dX5_loadLine_62 : decode cX5_loadLine 62 = .ok (.istore 4, 2) := by decide +kernel
theorem dX5_loadLine_64 : decode cX5_loadLine 64 = .ok (.iload_n 2, 1) := by decide +kernel
theorem dX5_loadLine_65 : decode cX5_loadLine 65 = .ok (.ifCond .eq 15, 3) := by decide +kernel
theorem dX5_loadLine_68 : decode cX5_loadLine 68 = .ok (.aload_n 0, 1) := by decide +kernel
theorem dX5_loadLine_69 : decode cX5_loadLine 69 = .ok (.iconst 1, 1) := by decide +kernel
theorem dX5_loadLine_70 : decode cX5_loadLine 70 = .ok (.bipush 11, 2) := by decide +kernel
theorem dX5_loadLine_72 : decode cX5_loadLine 72 = .ok (.invokevirtual 107, 3) := by decide +kernel
theorem dX5_loadLine_75 : decode cX5_loadLine 75 = .ok (.ifCond .ne 5, 3) := by decide +kernel
theorem dX5_loadLine_78 : decode cX5_loadLine 78 = .ok (.iconst 0, 1) := by decide +kernel
theorem dX5_loadLine_79 : decode cX5_loadLine 79 = .ok (.ireturn, 1) := by decide +kernel
theorem dX5_loadLine_80 : decode cX5_loadLine 80 = .ok (.iload_n 2, 1) := by decide +kernel
theorem dX5_loadLine_81 : decode cX5_loadLine 81 = .ok (.ifCond .eq 10, 3) := by decide +kernel
theorem dX5_loadLine_84 : decode cX5_loadLine 84 = .ok (.aload_n 0, 1) := by decide +kernel
theorem dX5_loadLine_85 : decode cX5_loadLine 85 = .ok (.getfield 94, 3) := by decide +kernel
theorem dX5_loadLine_88 : decode cX5_loadLine 88 = .ok (.goto 4, 3) := by decide +kernel
theorem dX5_loadLine_91 : decode cX5_loadLine 91 = .ok (.iconst 0, 1) := by decide +kernel
theorem dX5_loadLine_92 : decode cX5_loadLine 92 = .ok (.istore 5, 2) := by decide +kernel
theorem dX5_loadLine_94 : decode cX5_loadLine 94 = .ok (.aload_n 0, 1) := by decide +kernel
theorem dX5_loadLine_95 : decode cX5_loadLine 95 = .ok (.invokevirtual 97, 3) := by decide +kernel
theorem dX5_loadLine_98 : decode cX5_loadLine 98 = .ok (.ifCond .ne 5, 3) := by decide +kernel
theorem dX5_loadLine_101 : decode cX5_loadLine 101 = .ok (.iconst 0, 1) := by decide +kernel
theorem dX5_loadLine_102 : decode cX5_loadLine 102 = .ok (.ireturn, 1) := by decide +kernel
theorem dX5_loadLine_103 : decode cX5_loadLine 103 = .ok (.aload_n 1, 1) := by decide +kernel
theorem dX5_loadLine_104 : decode cX5_loadLine 104 = .ok (.iload_n 3, 1) := by decide +kernel
theorem dX5_loadLine_105 : decode cX5_loadLine 105 = .ok (.iload 4, 2) := by decide +kernel
theorem dX5_loadLine_107 : decode cX5_loadLine 107 = .ok (.iload 5, 2) := by decide +kernel
theorem dX5_loadLine_109 : decode cX5_loadLine 109 = .ok (.invokevirtual 117, 3) := by decide +kernel
theorem dX5_loadLine_112 : decode cX5_loadLine 112 = .ok (.iconst 1, 1) := by decide +kernel
theorem dX5_loadLine_113 : decode cX5_loadLine 113 = .ok (.ireturn, 1) := by decide +kernel
theorem dX5_number_0 : decode cX5_number 0 = .ok (.aload_n 0, 1) := by decide +kernel
theorem dX5_number_1 : decode cX5_number 1 = .ok (.invokevirtual 39, 3) := by decide +kernel
theorem dX5_number_4 : decode cX5_number 4 = .ok (.ifCond .eq 16, 3) := by decide +kernel
theorem dX5_number_7 : decode cX5_number 7 = .ok (.aload_n 0, 1) := by decide +kernel
theorem dX5_number_8 : decode cX5_number 8 = .ok (.iload_n 1, 1) := by decide +kernel
theorem dX5_number_9 : decode cX5_number 9 = .ok (.iload_n 2, 1) := by decide +kernel
theorem dX5_number_10 : decode cX5_number 10 = .ok (.invokevirtual 91, 3) := by decide +kernel
theorem dX5_number_13 : decode cX5_number 13 = .ok (.ifCond .eq 7, 3) := by decide +kernel
theorem dX5_number_16 : decode cX5_number 16 = .ok (.iconst 1, 1) := by decide +kernel
theorem dX5_number_17 : decode cX5_number 17 = .ok (.goto 4, 3) := by decide +kernel
theorem dX5_number_20 : decode cX5_number 20 = .ok (.iconst 0, 1) := by decide +kernel
theorem dX5_number_21 : decode cX5_number 21 = .ok (.ireturn, 1) := by decide +kernel
theorem dX5_semicolon_0 : decode cX5_semicolon 0 = .ok (.aload_n 0, 1) := by decide +kernel
theorem dX5_semicolon_1 : decode cX5_semicolon 1 = .ok (.invokevirtual 39, 3) := by decide +kernel
theorem dX5_semicolon_4 : decode cX5_semicolon 4 = .ok (.ifCond .eq 27, 3) := by decide +kernel
theorem dX5_semicolon_7 : decode cX5_semicolon 7 = .ok (.aload_n 0, 1) := by decide +kernel
theorem dX5_semicolon_8 : decode cX5_semicolon 8 = .ok (.getfield 43, 3) := by decide +kernel
theorem dX5_semicolon_11 : decode cX5_semicolon 11 = .ok (.iconst 4, 1) := by decide +kernel
theorem dX5_semicolon_12 : decode cX5_semicolon 12 = .ok (.if_icmp .eq 15, 3) := by decide +kernel
theorem dX5_semicolon_15 : decode cX5_semicolon 15 = .ok (.aload_n 0, 1) := by decide +kernel
theorem dX5_semicolon_16 : decode cX5_semicolon 16 = .ok (.iconst 2, 1) := by decide +kernel
theorem dX5_semicolon_17 : decode cX5_semicolon 17 = .ok (.aload_n 0, 1) := by decide +kernel
theorem dX5_semicolon_18 : decode cX5_semicolon 18 = .ok (.getfield 81, 3) := by decide +kernel
theorem dX5_semicolon_21 : decode cX5_semicolon 21 = .ok (.invokevirtual 53, 3) := by decide +kernel
theorem dX5_semicolon_24 : decode cX5_semicolon 24 = .ok (.ifCond .eq 7, 3) := by decide +kernel
theorem dX5_semicolon_27 : decode cX5_semicolon 27 = .ok (.iconst 1, 1) := by decide +kernel
theorem dX5_semicolon_28 : decode cX5_semicolon 28 = .ok (.goto 4, 3) := by decide +kernel
theorem dX5_semicolon_31 : decode cX5_semicolon 31 = .ok (.iconst 0, 1) := by decide +kernel
theorem dX5_semicolon_32 : decode cX5_semicolon 32 = .ok (.ireturn, 1) := by decide +kernel
theorem dX5_isNumber_0 : decode cX5_isNumber 0 = .ok (.aload_n 0, 1) := by decide +kernel
theorem dX5_isNumber_1 : decode cX5_isNumber 1 = .ok (.getfield 43, 3) := by decide +kernel
theorem dX5_isNumber_4 : decode cX5_isNumber 4 = .ok (.iconst 2, 1) := by decide +kernel
theorem dX5_isNumber_5 : decode cX5_isNumber 5 = .ok (.if_icmp .eq 13, 3) := by decide +kernel
theorem dX5_isNumber_8 : decode cX5_isNumber 8 = .ok (.aload_n 0, 1) := by decide +kernel
theorem dX5_isNumber_9 : decode cX5_isNumber 9 = .ok (.iconst 2, 1) := by decide +kernel
theorem dX5_isNumber_10 : decode cX5_isNumber 10 = .ok (.aload_n 0, 1) := by decide +kernel
theorem dX5_isNumber_11 : decode cX5_isNumber 11 = .ok (.getfield 81, 3) := by decide +kernel
theorem dX5_isNumber_14 : decode cX5_isNumber 14 = .ok (.invokevirtual 53, 3) := by decide +kernel
theorem dX5_isNumber_17 : decode cX5_isNumber 17 = .ok (.ireturn, 1) := by decide +kernel
theorem dX5_isNumber_18 : decode cX5_isNumber 18 = .ok (.aload_n 0, 1) := by decide +kernel
theorem dX5_isNumber_19 : decode cX5_isNumber 19 = .ok (.getfield 94, 3) := by decide +kernel
theorem dX5_isNumber_22 : decode cX5_isNumber 22 = .ok (.iload_n 1, 1) := by decide +kernel
theorem dX5_isNumber_23 : decode cX5_isNumber 23 = .ok (.if_icmp .lt 11, 3) := by decide +kernel
theorem dX5_isNumber_26 : decode cX5_isNumber 26 = .ok (.aload_n 0, 1) := by decide +kernel
theorem dX5_isNumber_27 : decode cX5_isNumber 27 = .ok (.getfield 94, 3) := by decide +kernel
theorem dX5_isNumber_30 : decode cX5_isNumber 30 = .ok (.iload_n 2, 1) := by decide +kernel
theorem dX5_isNumber_31 : decode cX5_isNumber 31 = .ok (.if_icmp .le 15, 3) := by decide +kernel
theorem dX5_isNumber_34 : decode cX5_isNumber 34 = .ok (.aload_n 0, 1) := by decide +kernel
theorem dX5_isNumber_35 : decode cX5_isNumber 35 = .ok (.iconst 3, 1) := by decide +kernel
theorem dX5_isNumber_36 : decode cX5_isNumber 36 = .ok (.aload_n 0, 1) := by decide +kernel
theorem dX5_isNumber_37 : decode cX5_isNumber 37 = .ok (.getfield 81, 3) := by decide +kernel
theorem dX5_isNumber_40 : decode cX5_isNumber 40 = .ok (.invokevirtual 53, 3) := by decide +kernel
theorem dX5_isNumber_43 : decode cX5_isNumber 43 = .ok (.ifCond .eq 7, 3) := by decide +kernel
theorem dX5_isNumber_46 : decode cX5_isNumber 46 = .ok (.iconst 1, 1) := by decide +kernel
theorem dX5_isNumber_47 : decode cX5_isNumber 47 = .ok (.goto 4, 3) := by decide +kernel
theorem dX5_isNumber_50 : decode cX5_isNumber 50 = .ok (.iconst 0, 1) := by decide +kernel
theorem dX5_isNumber_51 : decode cX5_isNumber 51 = .ok (.ireturn, 1) := by decide +kernel
theorem dX5_scan_0 : decode cX5_scan 0 = .ok (.aload_n 0, 1) := by decide +kernel
theorem dX5_scan_1 : decode cX5_scan 1 = .ok (.aload_n 0, 1) := by decide +kernel
theorem dX5_scan_2 : decode cX5_scan 2 = .ok (.getfield 33, 3) := by decide +kernel
theorem dX5_scan_5 : decode cX5_scan 5 = .ok (.putfield 81, 3) := by decide +kernel
theorem dX5_scan_8 : decode cX5_scan 8 = .ok (.aload_n 0, 1) := by decide +kernel
theorem dX5_scan_9 : decode cX5_scan 9 = .ok (.getfield 81, 3) := by decide +kernel
theorem dX5_scan_12 : decode cX5_scan 12 = .ok (.aload_n 0, 1) := by decide +kernel
theorem dX5_scan_13 : decode cX5_scan 13 = .ok (.getfield 12, 3) := by decide +kernel
theorem dX5_scan_16 : decode cX5_scan 16 = .ok (.getfield 36, 3) := by decide +kernel
theorem dX5_scan_19 : decode cX5_scan 19 = .ok (.if_icmp .ge 33, 3) := by decide +kernel
theorem dX5_scan_22 : decode cX5_scan 22 = .ok (.aload_n 0, 1) := by decide +kernel
theorem dX5_scan_23 : decode cX5_scan 23 = .ok (.getfield 12, 3) := by decide +kernel
theorem dX5_scan_26 : decode cX5_scan 26 = .ok (.getfield 121, 3) := by decide +kernel
theorem dX5_scan_29 : decode cX5_scan 29 = .ok (.aload_n 0, 1) := by decide +kernel
theorem dX5_scan_30 : decode cX5_scan 30 = .ok (.getfield 81, 3) := by decide +kernel
theorem dX5_scan_33 : decode cX5_scan 33 = .ok (.baload, 1) := by decide +kernel
theorem dX5_scan_34 : decode cX5_scan 34 = .ok (.bipush 32, 2) := by decide +kernel
theorem dX5_scan_36 : decode cX5_scan 36 = .ok (.if_icmp .ne 16, 3) := by decide +kernel
theorem dX5_scan_39 : decode cX5_scan 39 = .ok (.aload_n 0, 1) := by decide +kernel
theorem dX5_scan_40 : decode cX5_scan 40 = .ok (.dup, 1) := by decide +kernel
theorem dX5_scan_41 : decode cX5_scan 41 = .ok (.getfield 81, 3) := by decide +kernel
theorem dX5_scan_44 : decode cX5_scan 44 = .ok (.iconst 1, 1) := by decide +kernel
theorem dX5_scan_45 : decode cX5_scan 45 = .ok (.iadd, 1) := by decide +kernel
theorem dX5_scan_46 : decode cX5_scan 46 = .ok (.putfield 81, 3) := by decide +kernel
theorem dX5_scan_49 : decode cX5_scan 49 = .ok (.goto (-41), 3) := by decide +kernel
theorem dX5_scan_52 : decode cX5_scan 52 = .ok (.aload_n 0, 1) := by decide +kernel
theorem dX5_scan_53 : decode cX5_scan 53 = .ok (.aload_n 0, 1) := by decide +kernel
theorem dX5_scan_54 : decode cX5_scan 54 = .ok (.getfield 81, 3) := by decide +kernel
theorem dX5_scan_57 : decode cX5_scan 57 = .ok (.putfield 33, 3) := by decide +kernel
theorem dX5_scan_60 : decode cX5_scan 60 = .ok (.aload_n 0, 1) := by decide +kernel
theorem dX5_scan_61 : decode cX5_scan 61 = .ok (.getfield 81, 3) := by decide +kernel
theorem dX5_scan_64 : decode cX5_scan 64 = .ok (.aload_n 0, 1) := by decide +kernel
theorem dX5_scan_65 : decode cX5_scan 65 = .ok (.getfield 12, 3) := by decide +kernel
theorem dX5_scan_68 : decode cX5_scan 68 = .ok (.getfield 36, 3) := by decide +kernel
theorem dX5_scan_71 : decode cX5_scan 71 = .ok (.if_icmp .lt 10, 3) := by decide +kernel
theorem dX5_scan_74 : decode cX5_scan 74 = .ok (.aload_n 0, 1) := by decide +kernel
theorem dX5_scan_75 : decode cX5_scan 75 = .ok (.iconst 0, 1) := by decide +kernel
theorem dX5_scan_76 : decode cX5_scan 76 = .ok (.putfield 43, 3) := by decide +kernel
theorem dX5_scan_79 : decode cX5_scan 79 = .ok (.iconst 1, 1) := by decide +kernel
theorem dX5_scan_80 : decode cX5_scan 80 = .ok (.ireturn, 1) := by decide +kernel
theorem dX5_scan_81 : decode cX5_scan 81 = .ok (.aload_n 0, 1) := by decide +kernel
theorem dX5_scan_82 : decode cX5_scan 82 = .ok (.getfield 12, 3) := by decide +kernel
theorem dX5_scan_85 : decode cX5_scan 85 = .ok (.getfield 121, 3) := by decide +kernel
theorem dX5_scan_88 : decode cX5_scan 88 = .ok (.aload_n 0, 1) := by decide +kernel
theorem dX5_scan_89 : decode cX5_scan 89 = .ok (.getfield 81, 3) := by decide +kernel
theorem dX5_scan_92 : decode cX5_scan 92 = .ok (.baload, 1) := by decide +kernel
theorem dX5_scan_93 : decode cX5_scan 93 = .ok (.istore_n 1, 1) := by decide +kernel
theorem dX5_scan_94 : decode cX5_scan 94 = .ok (.iload_n 1, 1) := by decide +kernel
theorem dX5_scan_95 : decode cX5_scan 95 = .ok (.bipush 97, 2) := by decide +kernel
theorem dX5_scan_97 : decode cX5_scan 97 = .ok (.if_icmp .lt 28, 3) := by decide +kernel
theorem dX5_scan_100 : decode cX5_scan 100 = .ok (.iload_n 1, 1) := by decide +kernel
theorem dX5_scan_101 : decode cX5_scan 101 = .ok (.bipush 122, 2) := by decide +kernel
theorem dX5_scan_103 : decode cX5_scan 103 = .ok (.if_icmp .gt 22, 3) := by decide +kernel
theorem dX5_scan_106 : decode cX5_scan 106 = .ok (.aload_n 0, 1) := by decide +kernel
theorem dX5_scan_107 : decode cX5_scan 107 = .ok (.iconst 1, 1) := by decide +kernel
theorem dX5_scan_108 : decode cX5_scan 108 = .ok (.putfield 43, 3) := by decide +kernel
theorem dX5_scan_111 : decode cX5_scan 111 = .ok (.aload_n 0, 1) := by decide +kernel
theorem dX5_scan_112 : decode cX5_scan 112 = .ok (.aload_n 0, 1) := by decide +kernel
theorem dX5_scan_113 : decode cX5_scan 113 = .ok (.bipush 97, 2) := by decide +kernel
theorem dX5_scan_115 : decode cX5_scan 115 = .ok (.bipush 122, 2) := by decide +kernel
theorem dX5_scan_117 : decode cX5_scan 117 = .ok (.invokevirtual 125, 3) := by decide +kernel
theorem dX5_scan_120 : decode cX5_scan 120 = .ok (.putfield 33, 3) := by decide +kernel
theorem dX5_scan_123 : decode cX5_scan 123 = .ok (.iconst 1, 1) := by decide +kernel
theorem dX5_scan_124 : decode cX5_scan 124 = .ok (.ireturn, 1) := by decide +kernel
theorem dX5_scan_125 : decode cX5_scan 125 = .ok (.iload_n 1, 1) := by decide +kernel
theorem dX5_scan_126 : decode cX5_scan 126 = .ok (.bipush 48, 2) := by decide +kernel
theorem dX5_scan_128 : decode cX5_scan 128 = .ok (.if_icmp .lt 56, 3) := by decide +kernel
theorem dX5_scan_131 : decode cX5_scan 131 = .ok (.iload_n 1, 1) := by decide +kernel
theorem dX5_scan_132 : decode cX5_scan 132 = .ok (.bipush 57, 2) := by decide +kernel
theorem dX5_scan_134 : decode cX5_scan 134 = .ok (.if_icmp .gt 50, 3) := by decide +kernel
theorem dX5_scan_137 : decode cX5_scan 137 = .ok (.aload_n 0, 1) := by decide +kernel
theorem dX5_scan_138 : decode cX5_scan 138 = .ok (.iconst 2, 1) := by decide +kernel
theorem dX5_scan_139 : decode cX5_scan 139 = .ok (.putfield 43, 3) := by decide +kernel
theorem dX5_scan_142 : decode cX5_scan 142 = .ok (.aload_n 0, 1) := by decide +kernel
theorem dX5_scan_143 : decode cX5_scan 143 = .ok (.aload_n 0, 1) := by decide +kernel
theorem dX5_scan_144 : decode cX5_scan 144 = .ok (.bipush 48, 2) := by decide +kernel
theorem dX5_scan_146 : decode cX5_scan 146 = .ok (.bipush 57, 2) := by decide +kernel
theorem dX5_scan_148 : decode cX5_scan 148 = .ok (.invokevirtual 125, 3) := by decide +kernel
theorem dX5_scan_151 : decode cX5_scan 151 = .ok (.putfield 33, 3) := by decide +kernel
theorem dX5_scan_154 : decode cX5_scan 154 = .ok (.aload_n 0, 1) := by decide +kernel
theorem dX5_scan_155 : decode cX5_scan 155 = .ok (.getfield 33, 3) := by decide +kernel
theorem dX5_scan_158 : decode cX5_scan 158 = .ok (.aload_n 0, 1) := by decide +kernel
theorem dX5_scan_159 : decode cX5_scan 159 = .ok (.getfield 81, 3) := by decide +kernel
theorem dX5_scan_162 : decode cX5_scan 162 = .ok (.isub, 1) := by decide +kernel
theorem dX5_scan_163 : decode cX5_scan 163 = .ok (.iconst 4, 1) := by decide +kernel
theorem dX5_scan_164 : decode cX5_scan 164 = .ok (.if_icmp .gt 10, 3) := by decide +kernel
theorem dX5_scan_167 : decode cX5_scan 167 = .ok (.aload_n 0, 1) := by decide +kernel
theorem dX5_scan_168 : decode cX5_scan 168 = .ok (.invokevirtual 129, 3) := by decide +kernel
theorem dX5_scan_171 : decode cX5_scan 171 = .ok (.goto 12, 3) := by decide +kernel
theorem dX5_scan_174 : decode cX5_scan 174 = .ok (.aload_n 0, 1) := by decide +kernel
theorem dX5_scan_175 : decode cX5_scan 175 = .ok (.iconst 1, 1) := by decide +kernel
theorem dX5_scan_176 : decode cX5_scan 176 = .ok (.aload_n 0, 1) := by decide +kernel
theorem dX5_scan_177 : decode cX5_scan 177 = .ok (.getfield 81, 3) := by decide +kernel
theorem dX5_scan_180 : decode cX5_scan 180 = .ok (.invokevirtual 53, 3) := by decide +kernel
theorem dX5_scan_183 : decode cX5_scan 183 = .ok (.ireturn, 1) := by decide +kernel
theorem dX5_scan_184 : decode cX5_scan 184 = .ok (.iload_n 1, 1) := by decide +kernel
theorem dX5_scan_185 : decode cX5_scan 185 = .ok (.bipush 45, 2) := by decide +kernel
theorem dX5_scan_187 : decode cX5_scan 187 = .ok (.if_icmp .eq 19, 3) := by decide +kernel
theorem dX5_scan_190 : decode cX5_scan 190 = .ok (.iload_n 1, 1) := by decide +kernel
theorem dX5_scan_191 : decode cX5_scan 191 = .ok (.bipush 59, 2) := by decide +kernel
theorem dX5_scan_193 : decode cX5_scan 193 = .ok (.if_icmp .eq 13, 3) := by decide +kernel
theorem dX5_scan_196 : decode cX5_scan 196 = .ok (.aload_n 0, 1) := by decide +kernel
theorem dX5_scan_197 : decode cX5_scan 197 = .ok (.iconst 1, 1) := by decide +kernel
theorem dX5_scan_198 : decode cX5_scan 198 = .ok (.aload_n 0, 1) := by decide +kernel
theorem dX5_scan_199 : decode cX5_scan 199 = .ok (.getfield 81, 3) := by decide +kernel
theorem dX5_scan_202 : decode cX5_scan 202 = .ok (.invokevirtual 53, 3) := by decide +kernel
theorem dX5_scan_205 : decode cX5_scan 205 = .ok (.ireturn, 1) := by decide +kernel
theorem dX5_scan_206 : decode cX5_scan 206 = .ok (.aload_n 0, 1) := by decide +kernel
theorem dX5_scan_207 : decode cX5_scan 207 = .ok (.iload_n 1, 1) := by decide +kernel
theorem dX5_scan_208 : decode cX5_scan 208 = .ok (.bipush 45, 2) := by decide +kernel
theorem dX5_scan_210 : decode cX5_scan 210 = .ok (.if_icmp .ne 7, 3) := by decide +kernel
theorem dX5_scan_213 : decode cX5_scan 213 = .ok (.iconst 3, 1) := by decide +kernel
theorem dX5_scan_214 : decode cX5_scan 214 = .ok (.goto 4, 3) := by decide +kernel
theorem dX5_scan_217 : decode cX5_scan 217 = .ok (.iconst 4, 1) := by decide +kernel
theorem dX5_scan_218 : decode cX5_scan 218 = .ok (.putfield 43, 3) := by decide +kernel
theorem dX5_scan_221 : decode cX5_scan 221 = .ok (.aload_n 0, 1) := by decide +kernel
theorem dX5_scan_222 : decode cX5_scan 222 = .ok (.aload_n 0, 1) := by decide +kernel
theorem dX5_scan_223 : decode cX5_scan 223 = .ok (.getfield 81, 3) := by decide +kernel
theorem dX5_scan_226 : decode cX5_scan 226 = .ok (.iconst 1, 1) := by decide +kernel
theorem dX5_scan_227 : decode cX5_scan 227 = .ok (.iadd, 1) := by decide +kernel
theorem dX5_scan_228 : decode cX5_scan 228 = .ok (.putfield 33, 3) := by decide +kernel
theorem dX5_scan_231 : decode cX5_scan 231 = .ok (.iconst 1, 1) := by decide +kernel
theorem dX5_scan_232 : decode cX5_scan 232 = .ok (.ireturn, 1) := by decide +kernel
theorem dX5_behindRun_0 : decode cX5_behindRun 0 = .ok (.aload_n 0, 1) := by decide +kernel
theorem dX5_behindRun_1 : decode cX5_behindRun 1 = .ok (.getfield 81, 3) := by decide +kernel
theorem dX5_behindRun_4 : decode cX5_behindRun 4 = .ok (.istore_n 3, 1) := by decide +kernel
theorem dX5_behindRun_5 : decode cX5_behindRun 5 = .ok (.iload_n 3, 1) := by decide +kernel
theorem dX5_behindRun_6 : decode cX5_behindRun 6 = .ok (.aload_n 0, 1) := by decide +kernel
theorem dX5_behindRun_7 : decode cX5_behindRun 7 = .ok (.getfield 12, 3) := by decide +kernel
theorem dX5_behindRun_10 : decode cX5_behindRun 10 = .ok (.getfield 36, 3) := by decide +kernel
theorem dX5_behindRun_13 : decode cX5_behindRun 13 = .ok (.if_icmp .ge 35, 3) := by decide +kernel
theorem dX5_behindRun_16 : decode cX5_behindRun 16 = .ok (.aload_n 0, 1) := by decide +kernel
theorem dX5_behindRun_17 : decode cX5_behindRun 17 = .ok (.getfield 12, 3) := by decide +kernel
theorem dX5_behindRun_20 : decode cX5_behindRun 20 = .ok (.getfield 121, 3) := by decide +kernel
theorem dX5_behindRun_23 : decode cX5_behindRun 23 = .ok (.iload_n 3, 1) := by decide +kernel
theorem dX5_behindRun_24 : decode cX5_behindRun 24 = .ok (.baload, 1) := by decide +kernel
theorem dX5_behindRun_25 : decode cX5_behindRun 25 = .ok (.iload_n 1, 1) := by decide +kernel
theorem dX5_behindRun_26 : decode cX5_behindRun 26 = .ok (.if_icmp .lt 22, 3) := by decide +kernel
theorem dX5_behindRun_29 : decode cX5_behindRun 29 = .ok (.aload_n 0, 1) := by decide +kernel
theorem dX5_behindRun_30 : decode cX5_behindRun 30 = .ok (.getfield 12, 3) := by decide +kernel
theorem dX5_behindRun_33 : decode cX5_behindRun 33 = .ok (.getfield 121, 3) := by decide +kernel
theorem dX5_behindRun_36 : decode cX5_behindRun 36 = .ok (.iload_n 3, 1) := by decide +kernel
theorem dX5_behindRun_37 : decode cX5_behindRun 37 = .ok (.baload, 1) := by decide +kernel
theorem dX5_behindRun_38 : decode cX5_behindRun 38 = .ok (.iload_n 2, 1) := by decide +kernel
theorem dX5_behindRun_39 : decode cX5_behindRun 39 = .ok (.if_icmp .gt 9, 3) := by decide +kernel
theorem dX5_behindRun_42 : decode cX5_behindRun 42 = .ok (.iinc 3 1, 3) := by decide +kernel
theorem dX5_behindRun_45 : decode cX5_behindRun 45 = .ok (.goto (-40), 3) := by decide +kernel
theorem dX5_behindRun_48 : decode cX5_behindRun 48 = .ok (.iload_n 3, 1) := by decide +kernel
theorem dX5_behindRun_49 : decode cX5_behindRun 49 = .ok (.ireturn, 1) := by decide +kernel
theorem dX5_reckon_0 : decode cX5_reckon 0 = .ok (.aload_n 0, 1) := by decide +kernel
theorem dX5_reckon_1 : decode cX5_reckon 1 = .ok (.iconst 0, 1) := by decide +kernel
theorem dX5_reckon_2 : decode cX5_reckon 2 = .ok (.putfield 94, 3) := by decide +kernel
theorem dX5_reckon_5 : decode cX5_reckon 5 = .ok (.aload_n 0, 1) := by decide +kernel
theorem dX5_reckon_6 : decode cX5_reckon 6 = .ok (.getfield 81, 3) := by decide +kernel
theorem dX5_reckon_9 : decode cX5_reckon 9 = .ok (.istore_n 1, 1) := by decide +kernel
theorem dX5_reckon_10 : decode cX5_reckon 10 = .ok (.iload_n 1, 1) := by decide +kernel
theorem dX5_reckon_11 : decode cX5_reckon 11 = .ok (.aload_n 0, 1) := by decide +kernel
theorem dX5_reckon_12 : decode cX5_reckon 12 = .ok (.getfield 33, 3) := by decide +kernel
theorem dX5_reckon_15 : decode cX5_reckon 15 = .ok (.if_icmp .ge 33, 3) := by decide +kernel
theorem dX5_reckon_18 : decode cX5_reckon 18 = .ok (.aload_n 0, 1) := by decide +kernel
theorem dX5_reckon_19 : decode cX5_reckon 19 = .ok (.bipush 10, 2) := by decide +kernel
theorem dX5_reckon_21 : decode cX5_reckon 21 = .ok (.aload_n 0, 1) := by decide +kernel
theorem dX5_reckon_22 : decode cX5_reckon 22 = .ok (.getfield 94, 3) := by decide +kernel
theorem dX5_reckon_25 : decode cX5_reckon 25 = .ok (.imul, 1) := by decide +kernel
theorem dX5_reckon_26 : decode cX5_reckon 26 = .ok (.aload_n 0, 1) := by decide +kernel
theorem dX5_reckon_27 : decode cX5_reckon 27 = .ok (.getfield 12, 3) := by decide +kernel
theorem dX5_reckon_30 : decode cX5_reckon 30 = .ok (.getfield 121, 3) := by decide +kernel
theorem dX5_reckon_33 : decode cX5_reckon 33 = .ok (.iload_n 1, 1) := by decide +kernel
theorem dX5_reckon_34 : decode cX5_reckon 34 = .ok (.baload, 1) := by decide +kernel
theorem dX5_reckon_35 : decode cX5_reckon 35 = .ok (.iadd, 1) := by decide +kernel
theorem dX5_reckon_36 : decode cX5_reckon 36 = .ok (.bipush 48, 2) := by decide +kernel
theorem dX5_reckon_38 : decode cX5_reckon 38 = .ok (.isub, 1) := by decide +kernel
theorem dX5_reckon_39 : decode cX5_reckon 39 = .ok (.putfield 94, 3) := by decide +kernel
theorem dX5_reckon_42 : decode cX5_reckon 42 = .ok (.iinc 1 1, 3) := by decide +kernel
theorem dX5_reckon_45 : decode cX5_reckon 45 = .ok (.goto (-35), 3) := by decide +kernel
theorem dX5_reckon_48 : decode cX5_reckon 48 = .ok (.iconst 1, 1) := by decide +kernel
theorem dX5_reckon_49 : decode cX5_reckon 49 = .ok (.ireturn, 1) := by decide +kernel
theorem dX5_isWord_0 : decode cX5_isWord 0 = .ok (.aload_n 0, 1) := by decide +kernel
theorem dX5_isWord_1 : decode cX5_isWord 1 = .ok (.getfield 33, 3) := by decide +kernel
theorem dX5_isWord_4 : decode cX5_isWord 4 = .ok (.aload_n 0, 1) := by decide +kernel
theorem dX5_isWord_5 : decode cX5_isWord 5 = .ok (.getfield 81, 3) := by decide +kernel
theorem dX5_isWord_8 : decode cX5_isWord 8 = .ok (.isub, 1) := by decide +kernel
theorem dX5_isWord_9 : decode cX5_isWord 9 = .ok (.aload_n 1, 1) := by decide +kernel
theorem dX5_isWord_10 : decode cX5_isWord 10 = .ok (.invokevirtual 132, 3) := by decide +kernel
theorem dX5_isWord_13 : decode cX5_isWord 13 = .ok (.if_icmp .eq 5, 3) := by decide +kernel
theorem dX5_isWord_16 : decode cX5_isWord 16 = .ok (.iconst 0, 1) := by decide +kernel
theorem dX5_isWord_17 : decode cX5_isWord 17 = .ok (.ireturn, 1) := by decide +kernel
theorem dX5_isWord_18 : decode cX5_isWord 18 = .ok (.iconst 0, 1) := by decide +kernel
theorem dX5_isWord_19 : decode cX5_isWord 19 = .ok (.istore_n 2, 1) := by decide +kernel
theorem dX5_isWord_20 : decode cX5_isWord 20 = .ok (.iload_n 2, 1) := by decide +kernel
theorem dX5_isWord_21 : decode cX5_isWord 21 = .ok (.aload_n 1, 1) := by decide +kernel
theorem dX5_isWord_22 : decode cX5_isWord 22 = .ok (.invokevirtual 132, 3) := by decide +kernel
theorem dX5_isWord_25 : decode cX5_isWord 25 = .ok (.if_icmp .ge 33, 3) := by decide +kernel
theorem dX5_isWord_28 : decode cX5_isWord 28 = .ok (.aload_n 0, 1) := by decide +kernel
theorem dX5_isWord_29 : decode cX5_isWord 29 = .ok (.getfield 12, 3) := by decide +kernel
theorem dX5_isWord_32 : decode cX5_isWord 32 = .ok (.getfield 121, 3) := by decide +kernel
theorem dX5_isWord_35 : decode cX5_isWord 35 = .ok (.aload_n 0, 1) := by decide +kernel
theorem dX5_isWord_36 : decode cX5_isWord 36 = .ok (.getfield 81, 3) := by decide +kernel
theorem dX5_isWord_39 : decode cX5_isWord 39 = .ok (.iload_n 2, 1) := by decide +kernel
theorem dX5_isWord_40 : decode cX5_isWord 40 = .ok (.iadd, 1) := by decide +kernel
theorem dX5_isWord_41 : decode cX5_isWord 41 = .ok (.baload, 1) := by decide +kernel
theorem dX5_isWord_42 : decode cX5_isWord 42 = .ok (.aload_n 1, 1) := by decide +kernel
theorem dX5_isWord_43 : decode cX5_isWord 43 = .ok (.iload_n 2, 1) := by decide +kernel
theorem dX5_isWord_44 : decode cX5_isWord 44 = .ok (.invokevirtual 137, 3) := by decide +kernel
theorem dX5_isWord_47 : decode cX5_isWord 47 = .ok (.if_icmp .eq 5, 3) := by decide +kernel
theorem dX5_isWord_50 : decode cX5_isWord 50 = .ok (.iconst 0, 1) := by decide +kernel
theorem dX5_isWord_51 : decode cX5_isWord 51 = .ok (.ireturn, 1) := by decide +kernel
theorem dX5_isWord_52 : decode cX5_isWord 52 = .ok (.iinc 2 1, 3) := by decide +kernel
theorem dX5_isWord_55 : decode cX5_isWord 55 = .ok (.goto (-35), 3) := by decide +kernel
theorem dX5_isWord_58 : decode cX5_isWord 58 = .ok (.iconst 1, 1) := by decide +kernel
theorem dX5_isWord_59 : decode cX5_isWord 59 = .ok (.ireturn, 1) := by decide +kernel
theorem dX6_init_0 : decode cX6_init 0 = .ok (.aload_n 0, 1) := by decide +kernel
theorem dX6_init_1 : decode cX6_init 1 = .ok (.invokespecial 3, 3) := by decide +kernel
theorem dX6_init_4 : decode cX6_init 4 = .ok (.aload_n 0, 1) := by decide +kernel
theorem dX6_init_5 : decode cX6_init 5 = .ok (.new 9, 3) := by decide +kernel
theorem dX6_init_8 : decode cX6_init 8 = .ok (.dup, 1) := by decide +kernel
theorem dX6_init_9 : decode cX6_init 9 = .ok (.invokespecial 11, 3) := by decide +kernel
theorem dX6_init_12 : decode cX6_init 12 = .ok (.putfield 12, 3) := by decide +kernel
theorem dX6_init_15 : decode cX6_init 15 = .ok (.aload_n 0, 1) := by decide +kernel
theorem dX6_init_16 : decode cX6_init 16 = .ok (.aload_n 0, 1) := by decide +kernel
theorem dX6_init_17 : decode cX6_init 17 = .ok (.getfield 12, 3) := by decide +kernel
theorem dX6_init_20 : decode cX6_init 20 = .ok (.getfield 16, 3) := by decide +kernel
theorem dX6_init_23 : decode cX6_init 23 = .ok (.putfield 20, 3) := by decide +kernel
theorem dX6_init_26 : decode cX6_init 26 = .ok (.aload_n 0, 1) := by decide +kernel
theorem dX6_init_27 : decode cX6_init 27 = .ok (.new 21, 3) := by decide +kernel
theorem dX6_init_30 : decode cX6_init 30 = .ok (.dup, 1) := by decide +kernel
theorem dX6_init_31 : decode cX6_init 31 = .ok (.invokespecial 23, 3) := by decide +kernel
theorem dX6_init_34 : decode cX6_init 34 = .ok (.putfield 24, 3) := by decide +kernel
theorem dX6_init_37 : decode cX6_init 37 = .ok (.aload_n 0, 1) := by decide +kernel
theorem dX6_init_38 : decode cX6_init 38 = .ok (.new 28, 3) := by decide +kernel
theorem dX6_init_41 : decode cX6_init 41 = .ok (.dup, 1) := by decide +kernel
theorem dX6_init_42 : decode cX6_init 42 = .ok (.invokespecial 30, 3) := by decide +kernel
theorem dX6_init_45 : decode cX6_init 45 = .ok (.putfield 31, 3) := by decide +kernel
theorem dX6_init_48 : decode cX6_init 48 = .ok (.aload_n 0, 1) := by decide +kernel
theorem dX6_init_49 : decode cX6_init 49 = .ok (.new 35, 3) := by decide +kernel
theorem dX6_init_52 : decode cX6_init 52 = .ok (.dup, 1) := by decide +kernel
theorem dX6_init_53 : decode cX6_init 53 = .ok (.invokespecial 37, 3) := by decide +kernel
theorem dX6_init_56 : decode cX6_init 56 = .ok (.putfield 38, 3) := by decide +kernel
theorem dX6_init_59 : decode cX6_init 59 = .ok (.aload_n 0, 1) := by decide +kernel
theorem dX6_init_60 : decode cX6_init 60 = .ok (.new 35, 3) := by decide +kernel
theorem dX6_init_63 : decode cX6_init 63 = .ok (.dup, 1) := by decide +kernel
theorem dX6_init_64 : decode cX6_init 64 = .ok (.invokespecial 37, 3) := by decide +kernel
theorem dX6_init_67 : decode cX6_init 67 = .ok (.putfield 42, 3) := by decide +kernel
theorem dX6_init_70 : decode cX6_init 70 = .ok (.aload_n 0, 1) := by decide +kernel
theorem dX6_init_71 : decode cX6_init 71 = .ok (.iconst 2, 1) := by decide +kernel
theorem dX6_init_72 : decode cX6_init 72 = .ok (.anewarray 35, 3) := by decide +kernel
theorem dX6_init_75 : decode cX6_init 75 = .ok (.putfield 45, 3) := by decide +kernel
theorem dX6_init_78 : decode cX6_init 78 = .ok (.iconst 0, 1) := by decide +kernel
theorem dX6_init_79 : decode cX6_init 79 = .ok (.istore_n 1, 1) := by decide +kernel
theorem dX6_init_80 : decode cX6_init 80 = .ok (.iload_n 1, 1) := by decide +kernel
theorem dX6_init_81 : decode cX6_init 81 = .ok (.iconst 2, 1) := by decide +kernel
theorem dX6_init_82 : decode cX6_init 82 = .ok (.if_icmp .ge 22, 3) := by decide +kernel
theorem dX6_init_85 : decode cX6_init 85 = .ok (.aload_n 0, 1) := by decide +kernel
theorem dX6_init_86 : decode cX6_init 86 = .ok (.getfield 45, 3) := by decide +kernel
theorem dX6_init_89 : decode cX6_init 89 = .ok (.iload_n 1, 1) := by decide +kernel
theorem dX6_init_90 : decode cX6_init 90 = .ok (.new 35, 3) := by decide +kernel
theorem dX6_init_93 : decode cX6_init 93 = .ok (.dup, 1) := by decide +kernel
theorem dX6_init_94 : decode cX6_init 94 = .ok (.invokespecial 37, 3) := by decide +kernel
theorem dX6_init_97 : decode cX6_init 97 = .ok (.aastore, 1) := by decide +kernel
theorem dX6_init_98 : decode cX6_init 98 = .ok (.iinc 1 1, 3) := by decide +kernel
theorem dX6_init_101 : decode cX6_init 101 = .ok (.goto (-21), 3) := by decide +kernel
theorem dX6_init_104 : decode cX6_init 104 = .ok (.aload_n 0, 1) := by decide +kernel
theorem dX6_init_105 : decode cX6_init 105 = .ok (.iconst 2, 1) := by decide +kernel
theorem dX6_init_106 : decode cX6_init 106 = .ok (.newarray .boolean, 2) := by decide +kernel
theorem dX6_init_108 : decode cX6_init 108 = .ok (.putfield 49, 3) := by decide +kernel
theorem dX6_init_111 : decode cX6_init 111 = .ok (.aload_n 0, 1) := by decide +kernel
theorem dX6_init_112 : decode cX6_init 112 = .ok (.iconst 4, 1) := by decide +kernel
theorem dX6_init_113 : decode cX6_init 113 = .ok (.anewarray 53, 3) := by decide +kernel
theorem dX6_init_116 : decode cX6_init 116 = .ok (.putfield 55, 3) := by decide +kernel
theorem dX6_init_119 : decode cX6_init 119 = .ok (.iconst 0, 1) := by decide +kernel
theorem dX6_init_120 : decode cX6_init 120 = .ok (.istore_n 1, 1) := by decide +kernel
theorem dX6_init_121 : decode cX6_init 121 = .ok (.iload_n 1, 1) := by decide +kernel
theorem dX6_init_122 : decode cX6_init 122 = .ok (.iconst 4, 1) := by decide +kernel
theorem dX6_init_123 : decode cX6_init 123 = .ok (.if_icmp .ge 22, 3) := by decide +kernel
theorem dX6_init_126 : decode cX6_init 126 = .ok (.aload_n 0, 1) := by decide +kernel
theorem dX6_init_127 : decode cX6_init 127 = .ok (.getfield 55, 3) := by decide +kernel
theorem dX6_init_130 : decode cX6_init 130 = .ok (.iload_n 1, 1) := by decide +kernel
theorem dX6_init_131 : decode cX6_init 131 = .ok (.new 53, 3) := by decide +kernel
theorem dX6_init_134 : decode cX6_init 134 = .ok (.dup, 1) := by decide +kernel
theorem dX6_init_135 : decode cX6_init 135 = .ok (.invokespecial 59, 3) := by decide +kernel
theorem dX6_init_138 : decode cX6_init 138 = .ok (.aastore, 1) := by decide +kernel
theorem dX6_init_139 : decode cX6_init 139 = .ok (.iinc 1 1, 3) := by decide +kernel
theorem dX6_init_142 : decode cX6_init 142 = .ok (.goto (-21), 3) := by decide +kernel
theorem dX6_init_145 : decode cX6_init 145 = .ok (.return_, 1) := by decide +kernel
theorem dX6_feed_0 : decode cX6_feed 0 = .ok (.iload_n 1, 1) := by decide +kernel
theorem dX6_feed_1 : decode cX6_feed 1 = .ok (.ifCond .lt 9, 3) := by decide +kernel
theorem dX6_feed_4 : decode cX6_feed 4 = .ok (.iload_n 1, 1) := by decide +kernel
theorem dX6_feed_5 : decode cX6_feed 5 = .ok (.bipush 127, 2) := by decide +kernel
theorem dX6_feed_7 : decode cX6_feed 7 = .ok (.if_icmp .le 5, 3) := by decide +kernel
theorem dX6_feed_10 : decode cX6_feed 10 = .ok (.iconst (-1), 1) := by decide +kernel
theorem dX6_feed_11 : decode cX6_feed 11 = .ok (.ireturn, 1) := by decide +kernel
theorem dX6_feed_12 : decode cX6_feed 12 = .ok (.aload_n 0, 1) := by decide +kernel
theorem dX6_feed_13 : decode cX6_feed 13 = .ok (.getfield 20, 3) := by decide +kernel
theorem dX6_feed_16 : decode cX6_feed 16 = .ok (.getfield 60, 3) := by decide +kernel
theorem dX6_feed_19 : decode cX6_feed 19 = .ok (.sipush 320, 3) := by decide +kernel
theorem dX6_feed_22 : decode cX6_feed 22 = .ok (.if_icmp .lt 6, 3) := by decide +kernel
theorem dX6_feed_25 : decode cX6_feed 25 = .ok (.bipush (-3), 2) := by decide +kernel
theorem dX6_feed_27 : decode cX6_feed 27 = .ok (.ireturn, 1) := by decide +kernel
theorem dX6_feed_28 : decode cX6_feed 28 = .ok (.aload_n 0, 1) := by decide +kernel
theorem dX6_feed_29 : decode cX6_feed 29 = .ok (.getfield 20, 3) := by decide +kernel
theorem dX6_feed_32 : decode cX6_feed 32 = .ok (.iload_n 1, 1) := by decide +kernel
theorem dX6_feed_33 : decode cX6_feed 33 = .ok (.invokevirtual 66, 3) := by decide +kernel
theorem dX6_feed_36 : decode cX6_feed 36 = .ok (.aload_n 0, 1) := by decide +kernel
theorem dX6_feed_37 : decode cX6_feed 37 = .ok (.getfield 20, 3) := by decide +kernel
theorem dX6_feed_40 : decode cX6_feed 40 = .ok (.getfield 60, 3) := by decide +kernel
theorem dX6_feed_43 : decode cX6_feed 43 = .ok (.ireturn, 1) := by decide +kernel
theorem dX6_end_0 : decode cX6_end 0 = .ok (.iload_n 1, 1) := by decide +kernel
theorem dX6_end_1 : decode cX6_end 1 = .ok (.ifCond .lt 14, 3) := by decide +kernel
theorem dX6_end_4 : decode cX6_end 4 = .ok (.iload_n 1, 1) := by decide +kernel
theorem dX6_end_5 : decode cX6_end 5 = .ok (.aload_n 0, 1) := by decide +kernel
theorem dX6_end_6 : decode cX6_end 6 = .ok (.getfield 20, 3) := by decide +kernel
theorem dX6_end_9 : decode cX6_end 9 = .ok (.getfield 60, 3) := by decide +kernel
theorem dX6_end_12 : decode cX6_end 12 = .ok (.if_icmp .le 5, 3) := by decide +kernel
theorem dX6_end_15 : decode cX6_end 15 = .ok (.iconst (-1), 1) := by decide +kernel
theorem dX6_end_16 : decode cX6_end 16 = .ok (.ireturn, 1) := by decide +kernel
theorem dX6_end_17 : decode cX6_end 17 = .ok (.aload_n 0, 1) := by decide +kernel
theorem dX6_end_18 : decode cX6_end 18 = .ok (.getfield 20, 3) := by decide +kernel
theorem dX6_end_21 : decode cX6_end 21 = .ok (.getfield 60, 3) := by decide +kernel
theorem dX6_end_24 : decode cX6_end 24 = .ok (.istore_n 2, 1) := by decide +kernel
theorem dX6_end_25 : decode cX6_end 25 = .ok (.aload_n 0, 1) := by decide +kernel
theorem dX6_end_26 : decode cX6_end 26 = .ok (.getfield 20, 3) := by decide +kernel
theorem dX6_end_29 : decode cX6_end 29 = .ok (.iload_n 1, 1) := by decide +kernel
theorem dX6_end_30 : decode cX6_end 30 = .ok (.putfield 60, 3) := by decide +kernel
theorem dX6_end_33 : decode cX6_end 33 = .ok (.iload_n 2, 1) := by decide +kernel
theorem dX6_end_34 : decode cX6_end 34 = .ok (.ireturn, 1) := by decide +kernel
theorem dX6_text_0 : decode cX6_text 0 = .ok (.aload_n 0, 1) := by decide +kernel
theorem dX6_text_1 : decode cX6_text 1 = .ok (.getfield 12, 3) := by decide +kernel
theorem dX6_text_4 : decode cX6_text 4 = .ok (.aload_n 0, 1) := by decide +kernel
theorem dX6_text_5 : decode cX6_text 5 = .ok (.getfield 42, 3) := by decide +kernel
theorem dX6_text_8 : decode cX6_text 8 = .ok (.invokevirtual 70, 3) := by decide +kernel
theorem dX6_text_11 : decode cX6_text 11 = .ok (.istore_n 1, 1) := by decide +kernel
theorem dX6_text_12 : decode cX6_text 12 = .ok (.aload_n 0, 1) := by decide +kernel
theorem dX6_text_13 : decode cX6_text 13 = .ok (.getfield 20, 3) := by decide +kernel
theorem dX6_text_16 : decode cX6_text 16 = .ok (.iconst 0, 1) := by decide +kernel
theorem dX6_text_17 : decode cX6_text 17 = .ok (.putfield 60, 3) := by decide +kernel
theorem dX6_text_20 : decode cX6_text 20 = .ok (.aload_n 0, 1) := by decide +kernel
theorem dX6_text_21 : decode cX6_text 21 = .ok (.aload_n 0, 1) := by decide +kernel
theorem dX6_text_22 : decode cX6_text 22 = .ok (.getfield 12, 3) := by decide +kernel
theorem dX6_text_25 : decode cX6_text 25 = .ok (.getfield 74, 3) := by decide +kernel
theorem dX6_text_28 : decode cX6_text 28 = .ok (.putfield 77, 3) := by decide +kernel
theorem dX6_text_31 : decode cX6_text 31 = .ok (.iload_n 1, 1) := by decide +kernel
theorem dX6_text_32 : decode cX6_text 32 = .ok (.ifCond .ne 14, 3) := by decide +kernel
theorem dX6_text_35 : decode cX6_text 35 = .ok (.bipush (-10), 2) := by decide +kernel
theorem dX6_text_37 : decode cX6_text 37 = .ok (.aload_n 0, 1) := by decide +kernel
theorem dX6_text_38 : decode cX6_text 38 = .ok (.getfield 12, 3) := by decide +kernel
theorem dX6_text_41 : decode cX6_text 41 = .ok (.getfield 80, 3) := by decide +kernel
theorem dX6_text_44 : decode cX6_text 44 = .ok (.isub, 1) := by decide +kernel
theorem dX6_text_45 : decode cX6_text 45 = .ok (.ireturn, 1) := by decide +kernel
theorem dX6_text_46 : decode cX6_text 46 = .ok (.aload_n 0, 1) := by decide +kernel
theorem dX6_text_47 : decode cX6_text 47 = .ok (.getfield 38, 3) := by decide +kernel
theorem dX6_text_50 : decode cX6_text 50 = .ok (.astore_n 2, 1) := by decide +kernel
theorem dX6_text_51 : decode cX6_text 51 = .ok (.aload_n 0, 1) := by decide +kernel
theorem dX6_text_52 : decode cX6_text 52 = .ok (.aload_n 0, 1) := by decide +kernel
theorem dX6_text_53 : decode cX6_text 53 = .ok (.getfield 42, 3) := by decide +kernel
theorem dX6_text_56 : decode cX6_text 56 = .ok (.putfield 38, 3) := by decide +kernel
theorem dX6_text_59 : decode cX6_text 59 = .ok (.aload_n 0, 1) := by decide +kernel
theorem dX6_text_60 : decode cX6_text 60 = .ok (.aload_n 2, 1) := by decide +kernel
theorem dX6_text_61 : decode cX6_text 61 = .ok (.putfield 42, 3) := by decide +kernel
theorem dX6_text_64 : decode cX6_text 64 = .ok (.iconst 0, 1) := by decide +kernel
theorem dX6_text_65 : decode cX6_text 65 = .ok (.istore_n 3, 1) := by decide +kernel
theorem dX6_text_66 : decode cX6_text 66 = .ok (.iload_n 3, 1) := by decide +kernel
theorem dX6_text_67 : decode cX6_text 67 = .ok (.iconst 2, 1) := by decide +kernel
theorem dX6_text_68 : decode cX6_text 68 = .ok (.if_icmp .ge 16, 3) := by decide +kernel
theorem dX6_text_71 : decode cX6_text 71 = .ok (.aload_n 0, 1) := by decide +kernel
theorem dX6_text_72 : decode cX6_text 72 = .ok (.getfield 49, 3) := by decide +kernel
theorem dX6_text_75 : decode cX6_text 75 = .ok (.iload_n 3, 1) := by decide +kernel
theorem dX6_text_76 : decode cX6_text 76 = .ok (.iconst 0, 1) := by decide +kernel
theorem dX6_text_77 : decode cX6_text 77 = .ok (.bastore, 1) := by decide +kernel
theorem dX6_text_78 : decode cX6_text 78 = .ok (.iinc 3 1, 3) := by decide +kernel
theorem dX6_text_81 : decode cX6_text 81 = .ok (.goto (-15), 3) := by decide +kernel
theorem dX6_text_84 : decode cX6_text 84 = .ok (.aload_n 0, 1) := by decide +kernel
theorem dX6_text_85 : decode cX6_text 85 = .ok (.getfield 24, 3) := by decide +kernel
theorem dX6_text_88 : decode cX6_text 88 = .ok (.aload_n 0, 1) := by decide +kernel
theorem dX6_text_89 : decode cX6_text 89 = .ok (.getfield 38, 3) := by decide +kernel
theorem dX6_text_92 : decode cX6_text 92 = .ok (.invokevirtual 83, 3) := by decide +kernel
theorem dX6_text_95 : decode cX6_text 95 = .ok (.aload_n 0, 1) := by decide +kernel
theorem dX6_text_96 : decode cX6_text 96 = .ok (.getfield 12, 3) := by decide +kernel
theorem dX6_text_99 : decode cX6_text 99 = .ok (.getfield 87, 3) := by decide +kernel
theorem dX6_text_102 : decode cX6_text 102 = .ok (.ireturn, 1) := by decide +kernel
theorem dX6_fault_0 : decode cX6_fault 0 = .ok (.aload_n 0, 1) := by decide +kernel
theorem dX6_fault_1 : decode cX6_fault 1 = .ok (.getfield 77, 3) := by decide +kernel
theorem dX6_fault_4 : decode cX6_fault 4 = .ok (.ireturn, 1) := by decide +kernel
theorem dX6_rule_0 : decode cX6_rule 0 = .ok (.iload_n 1, 1) := by decide +kernel
theorem dX6_rule_1 : decode cX6_rule 1 = .ok (.tableswitch 119 0 7 #[47, 55, 63, 71, 79, 87, 99, 111], 47) := by decide +kernel
theorem dX6_rule_48 : decode cX6_rule 48 = .ok (.aload_n 0, 1) := by decide +kernel
theorem dX6_rule_49 : decode cX6_rule 49 = .ok (.getfield 38, 3) := by decide +kernel
theorem dX6_rule_52 : decode cX6_rule 52 = .ok (.getfield 90, 3) := by decide +kernel
theorem dX6_rule_55 : decode cX6_rule 55 = .ok (.ireturn, 1) := by decide +kernel
theorem dX6_rule_56 : decode cX6_rule 56 = .ok (.aload_n 0, 1) := by decide +kernel
theorem dX6_rule_57 : decode cX6_rule 57 = .ok (.getfield 38, 3) := by decide +kernel
theorem dX6_rule_60 : decode cX6_rule 60 = .ok (.invokevirtual 93, 3) := by decide +kernel
theorem dX6_rule_63 : decode cX6_rule 63 = .ok (.ireturn, 1) := by decide +kernel
theorem dX6_rule_64 : decode cX6_rule 64 = .ok (.aload_n 0, 1) := by decide +kernel
theorem dX6_rule_65 : decode cX6_rule 65 = .ok (.getfield 38, 3) := by decide +kernel
theorem dX6_rule_68 : decode cX6_rule 68 = .ok (.getfield 97, 3) := by decide +kernel
theorem dX6_rule_71 : decode cX6_rule 71 = .ok (.ireturn, 1) := by decide +kernel
theorem dX6_rule_72 : decode cX6_rule 72 = .ok (.aload_n 0, 1) := by decide +kernel
theorem dX6_rule_73 : decode cX6_rule 73 = .ok (.getfield 38, 3) := by decide +kernel
theorem dX6_rule_76 : decode cX6_rule 76 = .ok (.getfield 100, 3) := by decide +kernel
theorem dX6_rule_79 : decode cX6_rule 79 = .ok (.ireturn, 1) := by decide +kernel
theorem dX6_rule_80 : decode cX6_rule 80 = .ok (.aload_n 0, 1) := by decide +kernel
theorem dX6_rule_81 : decode cX6_rule 81 = .ok (.getfield 24, 3) := by decide +kernel
theorem dX6_rule_84 : decode cX6_rule 84 = .ok (.getfield 103, 3) := by decide +kernel
theorem dX6_rule_87 : decode cX6_rule 87 = .ok (.ireturn, 1) := by decide +kernel
theorem dX6_rule_88 : decode cX6_rule 88 = .ok (.aload_n 0, 1) := by decide +kernel
theorem dX6_rule_89 : decode cX6_rule 89 = .ok (.getfield 24, 3) := by decide +kernel
theorem dX6_rule_92 : decode cX6_rule 92 = .ok (.aload_n 0, 1) := by decide +kernel
theorem dX6_rule_93 : decode cX6_rule 93 = .ok (.getfield 38, 3) := by decide +kernel
theorem dX6_rule_96 : decode cX6_rule 96 = .ok (.invokevirtual 106, 3) := by decide +kernel
theorem dX6_rule_99 : decode cX6_rule 99 = .ok (.ireturn, 1) := by decide +kernel
theorem dX6_rule_100 : decode cX6_rule 100 = .ok (.aload_n 0, 1) := by decide +kernel
theorem dX6_rule_101 : decode cX6_rule 101 = .ok (.getfield 24, 3) := by decide +kernel
theorem dX6_rule_104 : decode cX6_rule 104 = .ok (.aload_n 0, 1) := by decide +kernel
theorem dX6_rule_105 : decode cX6_rule 105 = .ok (.getfield 38, 3) := by decide +kernel
theorem dX6_rule_108 : decode cX6_rule 108 = .ok (.invokevirtual 110, 3) := by decide +kernel
theorem dX6_rule_111 : decode cX6_rule 111 = .ok (.ireturn, 1) := by decide +kernel
theorem dX6_rule_112 : decode cX6_rule 112 = .ok (.aload_n 0, 1) := by decide +kernel
theorem dX6_rule_113 : decode cX6_rule 113 = .ok (.getfield 24, 3) := by decide +kernel
theorem dX6_rule_116 : decode cX6_rule 116 = .ok (.getfield 113, 3) := by decide +kernel
theorem dX6_rule_119 : decode cX6_rule 119 = .ok (.ireturn, 1) := by decide +kernel
theorem dX6_rule_120 : decode cX6_rule 120 = .ok (.iconst (-1), 1) := by decide +kernel
theorem dX6_rule_121 : decode cX6_rule 121 = .ok (.ireturn, 1) := by decide +kernel
theorem dX6_joint_0 : decode cX6_joint 0 = .ok (.aload_n 0, 1) := by decide +kernel
theorem dX6_joint_1 : decode cX6_joint 1 = .ok (.getfield 38, 3) := by decide +kernel
theorem dX6_joint_4 : decode cX6_joint 4 = .ok (.iload_n 1, 1) := by decide +kernel
theorem dX6_joint_5 : decode cX6_joint 5 = .ok (.invokevirtual 116, 3) := by decide +kernel
theorem dX6_joint_8 : decode cX6_joint 8 = .ok (.ifCond .ne 5, 3) := by decide +kernel
theorem dX6_joint_11 : decode cX6_joint 11 = .ok (.iconst (-1), 1) := by decide +kernel
theorem dX6_joint_12 : decode cX6_joint 12 = .ok (.ireturn, 1) := by decide +kernel
theorem dX6_joint_13 : decode cX6_joint 13 = .ok (.iload_n 2, 1) := by decide +kernel
theorem dX6_joint_14 : decode cX6_joint 14 = .ok (.tableswitch 103 0 4 #[34, 52, 62, 72, 82], 34) := by decide +kernel
theorem dX6_joint_48 : decode cX6_joint 48 = .ok (.aload_n 0, 1) := by decide +kernel
theorem dX6_joint_49 : decode cX6_joint 49 = .ok (.getfield 38, 3) := by decide +kernel
theorem dX6_joint_52 : decode cX6_joint 52 = .ok (.getfield 120, 3) := by decide +kernel
theorem dX6_joint_55 : decode cX6_joint 55 = .ok (.iload_n 1, 1) := by decide +kernel
theorem dX6_joint_56 : decode cX6_joint 56 = .ok (.baload, 1) := by decide +kernel
theorem dX6_joint_57 : decode cX6_joint 57 = .ok (.ifCond .eq 7, 3) := by decide +kernel
theorem dX6_joint_60 : decode cX6_joint 60 = .ok (.iconst 1, 1) := by decide +kernel
theorem dX6_joint_61 : decode cX6_joint 61 = .ok (.goto 4, 3) := by decide +kernel
theorem dX6_joint_64 : decode cX6_joint 64 = .ok (.iconst 0, 1) := by decide +kernel
theorem dX6_joint_65 : decode cX6_joint 65 = .ok (.ireturn, 1) := by decide +kernel
theorem dX6_joint_66 : decode cX6_joint 66 = .ok (.aload_n 0, 1) := by decide +kernel
theorem dX6_joint_67 : decode cX6_joint 67 = .ok (.getfield 24, 3) := by decide +kernel
theorem dX6_joint_70 : decode cX6_joint 70 = .ok (.getfield 123, 3) := by decide +kernel
theorem dX6_joint_73 : decode cX6_joint 73 = .ok (.iload_n 1, 1) := by decide +kernel
theorem dX6_joint_74 : decode cX6_joint 74 = .ok (.iaload, 1) := by decide +kernel
theorem dX6_joint_75 : decode cX6_joint 75 = .ok (.ireturn, 1) := by decide +kernel
theorem dX6_joint_76 : decode cX6_joint 76 = .ok (.aload_n 0, 1) := by decide +kernel
theorem dX6_joint_77 : decode cX6_joint 77 = .ok (.getfield 24, 3) := by decide +kernel
theorem dX6_joint_80 : decode cX6_joint 80 = .ok (.getfield 127, 3) := by decide +kernel
theorem dX6_joint_83 : decode cX6_joint 83 = .ok (.iload_n 1, 1) := by decide +kernel
theorem dX6_joint_84 : decode cX6_joint 84 = .ok (.iaload, 1) := by decide +kernel
theorem dX6_joint_85 : decode cX6_joint 85 = .ok (.ireturn, 1) := by decide +kernel
theorem dX6_joint_86 : decode cX6_joint 86 = .ok (.aload_n 0, 1) := by decide +kernel
theorem dX6_joint_87 : decode cX6_joint 87 = .ok (.getfield 24, 3) := by decide +kernel
theorem dX6_joint_90 : decode cX6_joint 90 = .ok (.getfield 130, 3) := by decide +kernel
theorem dX6_joint_93 : decode cX6_joint 93 = .ok (.iload_n 1, 1) := by decide +kernel
theorem dX6_joint_94 : decode cX6_joint 94 = .ok (.iaload, 1) := by decide +kernel
theorem dX6_joint_95 : decode cX6_joint 95 = .ok (.ireturn, 1) := by decide +kernel
theorem dX6_joint_96 : decode cX6_joint 96 = .ok (.aload_n 0, 1) := by decide +kernel
theorem dX6_joint_97 : decode cX6_joint 97 = .ok (.getfield 24, 3) := by decide +kernel
theorem dX6_joint_100 : decode cX6_joint 100 = .ok (.aload_n 0, 1) := by decide +kernel
theorem dX6_joint_101 : decode cX6_joint 101 = .ok (.getfield 38, 3) := by decide +kernel
theorem dX6_joint_104 : decode cX6_joint 104 = .ok (.iload_n 1, 1) := by decide +kernel
theorem dX6_joint_105 : decode cX6_joint 105 = .ok (.invokevirtual 133, 3) := by decide +kernel
theorem dX6_joint_108 : decode cX6_joint 108 = .ok (.ifCond .eq 7, 3) := by decide +kernel
theorem dX6_joint_111 : decode cX6_joint 111 = .ok (.iconst 1, 1) := by decide +kernel
theorem dX6_joint_112 : decode cX6_joint 112 = .ok (.goto 4, 3) := by decide +kernel
theorem dX6_joint_115 : decode cX6_joint 115 = .ok (.iconst 0, 1) := by decide +kernel
theorem dX6_joint_116 : decode cX6_joint 116 = .ok (.ireturn, 1) := by decide +kernel
theorem dX6_joint_117 : decode cX6_joint 117 = .ok (.iconst (-1), 1) := by decide +kernel
theorem dX6_joint_118 : decode cX6_joint 118 = .ok (.ireturn, 1) := by decide +kernel
theorem dX6_out_0 : decode cX6_out 0 = .ok (.aload_n 0, 1) := by decide +kernel
theorem dX6_out_1 : decode cX6_out 1 = .ok (.getfield 38, 3) := by decide +kernel
theorem dX6_out_4 : decode cX6_out 4 = .ok (.iload_n 1, 1) := by decide +kernel
theorem dX6_out_5 : decode cX6_out 5 = .ok (.invokevirtual 116, 3) := by decide +kernel
theorem dX6_out_8 : decode cX6_out 8 = .ok (.ifCond .ne 6, 3) := by decide +kernel
theorem dX6_out_11 : decode cX6_out 11 = .ok (.ldc 137, 2) := by decide +kernel
theorem dX6_out_13 : decode cX6_out 13 = .ok (.ireturn, 1) := by decide +kernel
theorem dX6_out_14 : decode cX6_out 14 = .ok (.iload_n 2, 1) := by decide +kernel
theorem dX6_out_15 : decode cX6_out 15 = .ok (.lookupswitch 45 #[(0, 25), (1, 35)], 25) := by decide +kernel
theorem dX6_out_40 : decode cX6_out 40 = .ok (.aload_n 0, 1) := by decide +kernel
theorem dX6_out_41 : decode cX6_out 41 = .ok (.getfield 38, 3) := by decide +kernel
theorem dX6_out_44 : decode cX6_out 44 = .ok (.getfield 138, 3) := by decide +kernel
theorem dX6_out_47 : decode cX6_out 47 = .ok (.iload_n 1, 1) := by decide +kernel
theorem dX6_out_48 : decode cX6_out 48 = .ok (.iaload, 1) := by decide +kernel
theorem dX6_out_49 : decode cX6_out 49 = .ok (.ireturn, 1) := by decide +kernel
theorem dX6_out_50 : decode cX6_out 50 = .ok (.aload_n 0, 1) := by decide +kernel
theorem dX6_out_51 : decode cX6_out 51 = .ok (.getfield 24, 3) := by decide +kernel
theorem dX6_out_54 : decode cX6_out 54 = .ok (.getfield 141, 3) := by decide +kernel
theorem dX6_out_57 : decode cX6_out 57 = .ok (.iload_n 1, 1) := by decide +kernel
theorem dX6_out_58 : decode cX6_out 58 = .ok (.iaload, 1) := by decide +kernel
theorem dX6_out_59 : decode cX6_out 59 = .ok (.ireturn, 1) := by decide +kernel
theorem dX6_out_60 : decode cX6_out 60 = .ok (.ldc 137, 2) := by decide +kernel
theorem dX6_out_62 : decode cX6_out 62 = .ok (.ireturn, 1) := by decide +kernel
theorem dX6_at_0 : decode cX6_at 0 = .ok (.aload_n 0, 1) := by decide +kernel
theorem dX6_at_1 : decode cX6_at 1 = .ok (.getfield 38, 3) := by decide +kernel
theorem dX6_at_4 : decode cX6_at 4 = .ok (.iload_n 1, 1) := by decide +kernel
theorem dX6_at_5 : decode cX6_at 5 = .ok (.invokevirtual 116, 3) := by decide +kernel
theorem dX6_at_8 : decode cX6_at 8 = .ok (.ifCond .eq 7, 3) := by decide +kernel
theorem dX6_at_11 : decode cX6_at 11 = .ok (.iload_n 2, 1) := by decide +kernel
theorem dX6_at_12 : decode cX6_at 12 = .ok (.ifCond .ge 5, 3) := by decide +kernel
theorem dX6_at_15 : decode cX6_at 15 = .ok (.iconst (-1), 1) := by decide +kernel
theorem dX6_at_16 : decode cX6_at 16 = .ok (.ireturn, 1) := by decide +kernel
theorem dX6_at_17 : decode cX6_at 17 = .ok (.iconst 0, 1) := by decide +kernel
