theorem dX7_load_4 : decode cX7_load 4 = .ok (.invokevirtual 152, 3) := by decide +kernel
theorem dX7_load_7 : decode cX7_load 7 = .ok (.iconst 1, 1) := by decide +kernel
theorem dX7_load_8 : decode cX7_load 8 = .ok (.isub, 1) := by decide +kernel
theorem dX7_load_9 : decode cX7_load 9 = .ok (.i2l, 1) := by decide +kernel
theorem dX7_load_10 : decode cX7_load 10 = .ok (.invokestatic 66, 3) := by decide +kernel
theorem dX7_load_13 : decode cX7_load 13 = .ok (.ifCond .ne 5, 3) := by decide +kernel
theorem dX7_load_16 : decode cX7_load 16 = .ok (.iconst (-1), 1) := by decide +kernel
theorem dX7_load_17 : decode cX7_load 17 = .ok (.ireturn, 1) := by decide +kernel
theorem dX7_load_18 : decode cX7_load 18 = .ok (.aload_n 0, 1) := by decide +kernel
theorem dX7_load_19 : decode cX7_load 19 = .ok (.getfield 7, 3) := by decide +kernel
theorem dX7_load_22 : decode cX7_load 22 = .ok (.bipush 68, 2) := by decide +kernel
theorem dX7_load_24 : decode cX7_load 24 = .ok (.iload_n 1, 1) := by decide +kernel
theorem dX7_load_25 : decode cX7_load 25 = .ok (.iadd, 1) := by decide +kernel
theorem dX7_load_26 : decode cX7_load 26 = .ok (.iaload, 1) := by decide +kernel
theorem dX7_load_27 : decode cX7_load 27 = .ok (.istore_n 3, 1) := by decide +kernel
theorem dX7_load_28 : decode cX7_load 28 = .ok (.iload_n 2, 1) := by decide +kernel
theorem dX7_load_29 : decode cX7_load 29 = .ok (.tableswitch 72 0 3 #[31, 41, 51, 61], 31) := by decide +kernel
theorem dX7_load_60 : decode cX7_load 60 = .ok (.aload_n 0, 1) := by decide +kernel
theorem dX7_load_61 : decode cX7_load 61 = .ok (.getfield 7, 3) := by decide +kernel
theorem dX7_load_64 : decode cX7_load 64 = .ok (.bipush 52, 2) := by decide +kernel
theorem dX7_load_66 : decode cX7_load 66 = .ok (.iload_n 1, 1) := by decide +kernel
theorem dX7_load_67 : decode cX7_load 67 = .ok (.iadd, 1) := by decide +kernel
theorem dX7_load_68 : decode cX7_load 68 = .ok (.iaload, 1) := by decide +kernel
theorem dX7_load_69 : decode cX7_load 69 = .ok (.ireturn, 1) := by decide +kernel
theorem dX7_load_70 : decode cX7_load 70 = .ok (.iload_n 3, 1) := by decide +kernel
theorem dX7_load_71 : decode cX7_load 71 = .ok (.ifCond .le 7, 3) := by decide +kernel
theorem dX7_load_74 : decode cX7_load 74 = .ok (.iconst 1, 1) := by decide +kernel
theorem dX7_load_75 : decode cX7_load 75 = .ok (.goto 4, 3) := by decide +kernel
theorem dX7_load_78 : decode cX7_load 78 = .ok (.iconst 0, 1) := by decide +kernel
theorem dX7_load_79 : decode cX7_load 79 = .ok (.ireturn, 1) := by decide +kernel
theorem dX7_load_80 : decode cX7_load 80 = .ok (.aload_n 0, 1) := by decide +kernel
theorem dX7_load_81 : decode cX7_load 81 = .ok (.getfield 7, 3) := by decide +kernel
theorem dX7_load_84 : decode cX7_load 84 = .ok (.bipush 60, 2) := by decide +kernel
theorem dX7_load_86 : decode cX7_load 86 = .ok (.iload_n 1, 1) := by decide +kernel
theorem dX7_load_87 : decode cX7_load 87 = .ok (.iadd, 1) := by decide +kernel
theorem dX7_load_88 : decode cX7_load 88 = .ok (.iaload, 1) := by decide +kernel
theorem dX7_load_89 : decode cX7_load 89 = .ok (.ireturn, 1) := by decide +kernel
theorem dX7_load_90 : decode cX7_load 90 = .ok (.iload_n 3, 1) := by decide +kernel
theorem dX7_load_91 : decode cX7_load 91 = .ok (.ifCond .le 7, 3) := by decide +kernel
theorem dX7_load_94 : decode cX7_load 94 = .ok (.iload_n 3, 1) := by decide +kernel
theorem dX7_load_95 : decode cX7_load 95 = .ok (.goto 5, 3) := by decide +kernel
theorem dX7_load_98 : decode cX7_load 98 = .ok (.bipush (-4), 2) := by decide +kernel
theorem dX7_load_100 : decode cX7_load 100 = .ok (.ireturn, 1) := by decide +kernel
theorem dX7_load_101 : decode cX7_load 101 = .ok (.iconst (-1), 1) := by decide +kernel
theorem dX7_load_102 : decode cX7_load 102 = .ok (.ireturn, 1) := by decide +kernel
theorem dX7_two_0 : decode cX7_two 0 = .ok (.aload_n 0, 1) := by decide +kernel
theorem dX7_two_1 : decode cX7_two 1 = .ok (.getfield 39, 3) := by decide +kernel
theorem dX7_two_4 : decode cX7_two 4 = .ok (.iconst 4, 1) := by decide +kernel
theorem dX7_two_5 : decode cX7_two 5 = .ok (.iload_n 1, 1) := by decide +kernel
theorem dX7_two_6 : decode cX7_two 6 = .ok (.imul, 1) := by decide +kernel
theorem dX7_two_7 : decode cX7_two 7 = .ok (.iload_n 2, 1) := by decide +kernel
theorem dX7_two_8 : decode cX7_two 8 = .ok (.iadd, 1) := by decide +kernel
theorem dX7_two_9 : decode cX7_two 9 = .ok (.laload, 1) := by decide +kernel
theorem dX7_two_10 : decode cX7_two 10 = .ok (.aload_n 0, 1) := by decide +kernel
theorem dX7_two_11 : decode cX7_two 11 = .ok (.getfield 39, 3) := by decide +kernel
theorem dX7_two_14 : decode cX7_two 14 = .ok (.iconst 4, 1) := by decide +kernel
theorem dX7_two_15 : decode cX7_two 15 = .ok (.iload_n 1, 1) := by decide +kernel
theorem dX7_two_16 : decode cX7_two 16 = .ok (.imul, 1) := by decide +kernel
theorem dX7_two_17 : decode cX7_two 17 = .ok (.iconst 4, 1) := by decide +kernel
theorem dX7_two_18 : decode cX7_two 18 = .ok (.iadd, 1) := by decide +kernel
theorem dX7_two_19 : decode cX7_two 19 = .ok (.iload_n 3, 1) := by decide +kernel
theorem dX7_two_20 : decode cX7_two 20 = .ok (.iadd, 1) := by decide +kernel
theorem dX7_two_21 : decode cX7_two 21 = .ok (.laload, 1) := by decide +kernel
theorem dX7_two_22 : decode cX7_two 22 = .ok (.lmul, 1) := by decide +kernel
theorem dX7_two_23 : decode cX7_two 23 = .ok (.aload_n 0, 1) := by decide +kernel
theorem dX7_two_24 : decode cX7_two 24 = .ok (.getfield 39, 3) := by decide +kernel
theorem dX7_two_27 : decode cX7_two 27 = .ok (.iconst 4, 1) := by decide +kernel
theorem dX7_two_28 : decode cX7_two 28 = .ok (.iload_n 1, 1) := by decide +kernel
theorem dX7_two_29 : decode cX7_two 29 = .ok (.imul, 1) := by decide +kernel
theorem dX7_two_30 : decode cX7_two 30 = .ok (.iload_n 3, 1) := by decide +kernel
theorem dX7_two_31 : decode cX7_two 31 = .ok (.iadd, 1) := by decide +kernel
theorem dX7_two_32 : decode cX7_two 32 = .ok (.laload, 1) := by decide +kernel
theorem dX7_two_33 : decode cX7_two 33 = .ok (.aload_n 0, 1) := by decide +kernel
theorem dX7_two_34 : decode cX7_two 34 = .ok (.getfield 39, 3) := by decide +kernel
theorem dX7_two_37 : decode cX7_two 37 = .ok (.iconst 4, 1) := by decide +kernel
theorem dX7_two_38 : decode cX7_two 38 = .ok (.iload_n 1, 1) := by decide +kernel
theorem dX7_two_39 : decode cX7_two 39 = .ok (.imul, 1) := by decide +kernel
theorem dX7_two_40 : decode cX7_two 40 = .ok (.iconst 4, 1) := by decide +kernel
theorem dX7_two_41 : decode cX7_two 41 = .ok (.iadd, 1) := by decide +kernel
theorem dX7_two_42 : decode cX7_two 42 = .ok (.iload_n 2, 1) := by decide +kernel
theorem dX7_two_43 : decode cX7_two 43 = .ok (.iadd, 1) := by decide +kernel
theorem dX7_two_44 : decode cX7_two 44 = .ok (.laload, 1) := by decide +kernel
theorem dX7_two_45 : decode cX7_two 45 = .ok (.lmul, 1) := by decide +kernel
theorem dX7_two_46 : decode cX7_two 46 = .ok (.lsub, 1) := by decide +kernel
theorem dX7_two_47 : decode cX7_two 47 = .ok (.lreturn, 1) := by decide +kernel
theorem dX7_determinant_0 : decode cX7_determinant 0 = .ok (.aload_n 0, 1) := by decide +kernel
theorem dX7_determinant_1 : decode cX7_determinant 1 = .ok (.iconst 0, 1) := by decide +kernel
theorem dX7_determinant_2 : decode cX7_determinant 2 = .ok (.iconst 0, 1) := by decide +kernel
theorem dX7_determinant_3 : decode cX7_determinant 3 = .ok (.iconst 1, 1) := by decide +kernel
theorem dX7_determinant_4 : decode cX7_determinant 4 = .ok (.invokevirtual 213, 3) := by decide +kernel
theorem dX7_determinant_7 : decode cX7_determinant 7 = .ok (.aload_n 0, 1) := by decide +kernel
theorem dX7_determinant_8 : decode cX7_determinant 8 = .ok (.iconst 2, 1) := by decide +kernel
theorem dX7_determinant_9 : decode cX7_determinant 9 = .ok (.iconst 2, 1) := by decide +kernel
theorem dX7_determinant_10 : decode cX7_determinant 10 = .ok (.iconst 3, 1) := by decide +kernel
theorem dX7_determinant_11 : decode cX7_determinant 11 = .ok (.invokevirtual 213, 3) := by decide +kernel
theorem dX7_determinant_14 : decode cX7_determinant 14 = .ok (.lmul, 1) := by decide +kernel
theorem dX7_determinant_15 : decode cX7_determinant 15 = .ok (.aload_n 0, 1) := by decide +kernel
theorem dX7_determinant_16 : decode cX7_determinant 16 = .ok (.iconst 0, 1) := by decide +kernel
theorem dX7_determinant_17 : decode cX7_determinant 17 = .ok (.iconst 0, 1) := by decide +kernel
theorem dX7_determinant_18 : decode cX7_determinant 18 = .ok (.iconst 2, 1) := by decide +kernel
theorem dX7_determinant_19 : decode cX7_determinant 19 = .ok (.invokevirtual 213, 3) := by decide +kernel
theorem dX7_determinant_22 : decode cX7_determinant 22 = .ok (.aload_n 0, 1) := by decide +kernel
theorem dX7_determinant_23 : decode cX7_determinant 23 = .ok (.iconst 2, 1) := by decide +kernel
theorem dX7_determinant_24 : decode cX7_determinant 24 = .ok (.iconst 1, 1) := by decide +kernel
theorem dX7_determinant_25 : decode cX7_determinant 25 = .ok (.iconst 3, 1) := by decide +kernel
theorem dX7_determinant_26 : decode cX7_determinant 26 = .ok (.invokevirtual 213, 3) := by decide +kernel
theorem dX7_determinant_29 : decode cX7_determinant 29 = .ok (.lmul, 1) := by decide +kernel
theorem dX7_determinant_30 : decode cX7_determinant 30 = .ok (.lsub, 1) := by decide +kernel
theorem dX7_determinant_31 : decode cX7_determinant 31 = .ok (.aload_n 0, 1) := by decide +kernel
theorem dX7_determinant_32 : decode cX7_determinant 32 = .ok (.iconst 0, 1) := by decide +kernel
theorem dX7_determinant_33 : decode cX7_determinant 33 = .ok (.iconst 0, 1) := by decide +kernel
theorem dX7_determinant_34 : decode cX7_determinant 34 = .ok (.iconst 3, 1) := by decide +kernel
theorem dX7_determinant_35 : decode cX7_determinant 35 = .ok (.invokevirtual 213, 3) := by decide +kernel
theorem dX7_determinant_38 : decode cX7_determinant 38 = .ok (.aload_n 0, 1) := by decide +kernel
theorem dX7_determinant_39 : decode cX7_determinant 39 = .ok (.iconst 2, 1) := by decide +kernel
theorem dX7_determinant_40 : decode cX7_determinant 40 = .ok (.iconst 1, 1) := by decide +kernel
theorem dX7_determinant_41 : decode cX7_determinant 41 = .ok (.iconst 2, 1) := by decide +kernel
theorem dX7_determinant_42 : decode cX7_determinant 42 = .ok (.invokevirtual 213, 3) := by decide +kernel
theorem dX7_determinant_45 : decode cX7_determinant 45 = .ok (.lmul, 1) := by decide +kernel
theorem dX7_determinant_46 : decode cX7_determinant 46 = .ok (.ladd, 1) := by decide +kernel
theorem dX7_determinant_47 : decode cX7_determinant 47 = .ok (.aload_n 0, 1) := by decide +kernel
theorem dX7_determinant_48 : decode cX7_determinant 48 = .ok (.iconst 0, 1) := by decide +kernel
theorem dX7_determinant_49 : decode cX7_determinant 49 = .ok (.iconst 1, 1) := by decide +kernel
theorem dX7_determinant_50 : decode cX7_determinant 50 = .ok (.iconst 2, 1) := by decide +kernel
theorem dX7_determinant_51 : decode cX7_determinant 51 = .ok (.invokevirtual 213, 3) := by decide +kernel
theorem dX7_determinant_54 : decode cX7_determinant 54 = .ok (.aload_n 0, 1) := by decide +kernel
theorem dX7_determinant_55 : decode cX7_determinant 55 = .ok (.iconst 2, 1) := by decide +kernel
theorem dX7_determinant_56 : decode cX7_determinant 56 = .ok (.iconst 0, 1) := by decide +kernel
theorem dX7_determinant_57 : decode cX7_determinant 57 = .ok (.iconst 3, 1) := by decide +kernel
theorem dX7_determinant_58 : decode cX7_determinant 58 = .ok (.invokevirtual 213, 3) := by decide +kernel
theorem dX7_determinant_61 : decode cX7_determinant 61 = .ok (.lmul, 1) := by decide +kernel
theorem dX7_determinant_62 : decode cX7_determinant 62 = .ok (.ladd, 1) := by decide +kernel
theorem dX7_determinant_63 : decode cX7_determinant 63 = .ok (.aload_n 0, 1) := by decide +kernel
theorem dX7_determinant_64 : decode cX7_determinant 64 = .ok (.iconst 0, 1) := by decide +kernel
theorem dX7_determinant_65 : decode cX7_determinant 65 = .ok (.iconst 1, 1) := by decide +kernel
theorem dX7_determinant_66 : decode cX7_determinant 66 = .ok (.iconst 3, 1) := by decide +kernel
theorem dX7_determinant_67 : decode cX7_determinant 67 = .ok (.invokevirtual 213, 3) := by decide +kernel
theorem dX7_determinant_70 : decode cX7_determinant 70 = .ok (.aload_n 0, 1) := by decide +kernel
theorem dX7_determinant_71 : decode cX7_determinant 71 = .ok (.iconst 2, 1) := by decide +kernel
theorem dX7_determinant_72 : decode cX7_determinant 72 = .ok (.iconst 0, 1) := by decide +kernel
theorem dX7_determinant_73 : decode cX7_determinant 73 = .ok (.iconst 2, 1) := by decide +kernel
theorem dX7_determinant_74 : decode cX7_determinant 74 = .ok (.invokevirtual 213, 3) := by decide +kernel
theorem dX7_determinant_77 : decode cX7_determinant 77 = .ok (.lmul, 1) := by decide +kernel
theorem dX7_determinant_78 : decode cX7_determinant 78 = .ok (.lsub, 1) := by decide +kernel
theorem dX7_determinant_79 : decode cX7_determinant 79 = .ok (.aload_n 0, 1) := by decide +kernel
theorem dX7_determinant_80 : decode cX7_determinant 80 = .ok (.iconst 0, 1) := by decide +kernel
theorem dX7_determinant_81 : decode cX7_determinant 81 = .ok (.iconst 2, 1) := by decide +kernel
theorem dX7_determinant_82 : decode cX7_determinant 82 = .ok (.iconst 3, 1) := by decide +kernel
theorem dX7_determinant_83 : decode cX7_determinant 83 = .ok (.invokevirtual 213, 3) := by decide +kernel
theorem dX7_determinant_86 : decode cX7_determinant 86 = .ok (.aload_n 0, 1) := by decide +kernel
theorem dX7_determinant_87 : decode cX7_determinant 87 = .ok (.iconst 2, 1) := by decide +kernel
theorem dX7_determinant_88 : decode cX7_determinant 88 = .ok (.iconst 0, 1) := by decide +kernel
theorem dX7_determinant_89 : decode cX7_determinant 89 = .ok (.iconst 1, 1) := by decide +kernel
theorem dX7_determinant_90 : decode cX7_determinant 90 = .ok (.invokevirtual 213, 3) := by decide +kernel
theorem dX7_determinant_93 : decode cX7_determinant 93 = .ok (.lmul, 1) := by decide +kernel
theorem dX7_determinant_94 : decode cX7_determinant 94 = .ok (.ladd, 1) := by decide +kernel
theorem dX7_determinant_95 : decode cX7_determinant 95 = .ok (.lreturn, 1) := by decide +kernel
theorem dX7_equations_0 : decode cX7_equations 0 = .ok (.iconst 0, 1) := by decide +kernel
theorem dX7_equations_1 : decode cX7_equations 1 = .ok (.istore_n 1, 1) := by decide +kernel
theorem dX7_equations_2 : decode cX7_equations 2 = .ok (.iconst 0, 1) := by decide +kernel
theorem dX7_equations_3 : decode cX7_equations 3 = .ok (.istore_n 2, 1) := by decide +kernel
theorem dX7_equations_4 : decode cX7_equations 4 = .ok (.iload_n 2, 1) := by decide +kernel
theorem dX7_equations_5 : decode cX7_equations 5 = .ok (.bipush 16, 2) := by decide +kernel
theorem dX7_equations_7 : decode cX7_equations 7 = .ok (.if_icmp .ge 26, 3) := by decide +kernel
theorem dX7_equations_10 : decode cX7_equations 10 = .ok (.aload_n 0, 1) := by decide +kernel
theorem dX7_equations_11 : decode cX7_equations 11 = .ok (.getfield 32, 3) := by decide +kernel
theorem dX7_equations_14 : decode cX7_equations 14 = .ok (.iload_n 2, 1) := by decide +kernel
theorem dX7_equations_15 : decode cX7_equations 15 = .ok (.iload_n 2, 1) := by decide +kernel
theorem dX7_equations_16 : decode cX7_equations 16 = .ok (.iconst 5, 1) := by decide +kernel
theorem dX7_equations_17 : decode cX7_equations 17 = .ok (.irem, 1) := by decide +kernel
theorem dX7_equations_18 : decode cX7_equations 18 = .ok (.ifCond .ne 7, 3) := by decide +kernel
theorem dX7_equations_21 : decode cX7_equations 21 = .ok (.lconst 1, 1) := by decide +kernel
theorem dX7_equations_22 : decode cX7_equations 22 = .ok (.goto 4, 3) := by decide +kernel
theorem dX7_equations_25 : decode cX7_equations 25 = .ok (.lconst 0, 1) := by decide +kernel
theorem dX7_equations_26 : decode cX7_equations 26 = .ok (.lastore, 1) := by decide +kernel
theorem dX7_equations_27 : decode cX7_equations 27 = .ok (.iinc 2 1, 3) := by decide +kernel
theorem dX7_equations_30 : decode cX7_equations 30 = .ok (.goto (-26), 3) := by decide +kernel
theorem dX7_equations_33 : decode cX7_equations 33 = .ok (.iconst 0, 1) := by decide +kernel
theorem dX7_equations_34 : decode cX7_equations 34 = .ok (.istore_n 2, 1) := by decide +kernel
theorem dX7_equations_35 : decode cX7_equations 35 = .ok (.iload_n 2, 1) := by decide +kernel
theorem dX7_equations_36 : decode cX7_equations 36 = .ok (.bipush 6, 2) := by decide +kernel
theorem dX7_equations_38 : decode cX7_equations 38 = .ok (.if_icmp .ge 59, 3) := by decide +kernel
theorem dX7_equations_41 : decode cX7_equations 41 = .ok (.iload_n 2, 1) := by decide +kernel
theorem dX7_equations_42 : decode cX7_equations 42 = .ok (.aload_n 0, 1) := by decide +kernel
theorem dX7_equations_43 : decode cX7_equations 43 = .ok (.invokevirtual 183, 3) := by decide +kernel
theorem dX7_equations_46 : decode cX7_equations 46 = .ok (.if_icmp .ge 15, 3) := by decide +kernel
theorem dX7_equations_49 : decode cX7_equations 49 = .ok (.aload_n 0, 1) := by decide +kernel
theorem dX7_equations_50 : decode cX7_equations 50 = .ok (.iload_n 2, 1) := by decide +kernel
theorem dX7_equations_51 : decode cX7_equations 51 = .ok (.invokevirtual 177, 3) := by decide +kernel
theorem dX7_equations_54 : decode cX7_equations 54 = .ok (.ifCond .eq 7, 3) := by decide +kernel
theorem dX7_equations_57 : decode cX7_equations 57 = .ok (.iconst 1, 1) := by decide +kernel
theorem dX7_equations_58 : decode cX7_equations 58 = .ok (.goto 4, 3) := by decide +kernel
theorem dX7_equations_61 : decode cX7_equations 61 = .ok (.iconst 0, 1) := by decide +kernel
theorem dX7_equations_62 : decode cX7_equations 62 = .ok (.istore_n 3, 1) := by decide +kernel
theorem dX7_equations_63 : decode cX7_equations 63 = .ok (.aload_n 0, 1) := by decide +kernel
theorem dX7_equations_64 : decode cX7_equations 64 = .ok (.getfield 45, 3) := by decide +kernel
theorem dX7_equations_67 : decode cX7_equations 67 = .ok (.iload_n 2, 1) := by decide +kernel
theorem dX7_equations_68 : decode cX7_equations 68 = .ok (.iload_n 3, 1) := by decide +kernel
theorem dX7_equations_69 : decode cX7_equations 69 = .ok (.ifCond .eq 7, 3) := by decide +kernel
theorem dX7_equations_72 : decode cX7_equations 72 = .ok (.iload_n 1, 1) := by decide +kernel
theorem dX7_equations_73 : decode cX7_equations 73 = .ok (.goto 5, 3) := by decide +kernel
theorem dX7_equations_76 : decode cX7_equations 76 = .ok (.bipush (-4), 2) := by decide +kernel
theorem dX7_equations_78 : decode cX7_equations 78 = .ok (.iastore, 1) := by decide +kernel
theorem dX7_equations_79 : decode cX7_equations 79 = .ok (.iload_n 1, 1) := by decide +kernel
theorem dX7_equations_80 : decode cX7_equations 80 = .ok (.iload_n 3, 1) := by decide +kernel
theorem dX7_equations_81 : decode cX7_equations 81 = .ok (.ifCond .eq 7, 3) := by decide +kernel
theorem dX7_equations_84 : decode cX7_equations 84 = .ok (.iconst 1, 1) := by decide +kernel
theorem dX7_equations_85 : decode cX7_equations 85 = .ok (.goto 4, 3) := by decide +kernel
theorem dX7_equations_88 : decode cX7_equations 88 = .ok (.iconst 0, 1) := by decide +kernel
theorem dX7_equations_89 : decode cX7_equations 89 = .ok (.iadd, 1) := by decide +kernel
theorem dX7_equations_90 : decode cX7_equations 90 = .ok (.istore_n 1, 1) := by decide +kernel
theorem dX7_equations_91 : decode cX7_equations 91 = .ok (.iinc 2 1, 3) := by decide +kernel
theorem dX7_equations_94 : decode cX7_equations 94 = .ok (.goto (-59), 3) := by decide +kernel
theorem dX7_equations_97 : decode cX7_equations 97 = .ok (.iconst 0, 1) := by decide +kernel
theorem dX7_equations_98 : decode cX7_equations 98 = .ok (.istore_n 2, 1) := by decide +kernel
theorem dX7_equations_99 : decode cX7_equations 99 = .ok (.iload_n 2, 1) := by decide +kernel
theorem dX7_equations_100 : decode cX7_equations 100 = .ok (.iconst 4, 1) := by decide +kernel
theorem dX7_equations_101 : decode cX7_equations 101 = .ok (.if_icmp .ge 16, 3) := by decide +kernel
theorem dX7_equations_104 : decode cX7_equations 104 = .ok (.aload_n 0, 1) := by decide +kernel
theorem dX7_equations_105 : decode cX7_equations 105 = .ok (.getfield 36, 3) := by decide +kernel
theorem dX7_equations_108 : decode cX7_equations 108 = .ok (.iload_n 2, 1) := by decide +kernel
theorem dX7_equations_109 : decode cX7_equations 109 = .ok (.lconst 0, 1) := by decide +kernel
theorem dX7_equations_110 : decode cX7_equations 110 = .ok (.lastore, 1) := by decide +kernel
theorem dX7_equations_111 : decode cX7_equations 111 = .ok (.iinc 2 1, 3) := by decide +kernel
theorem dX7_equations_114 : decode cX7_equations 114 = .ok (.goto (-15), 3) := by decide +kernel
theorem dX7_equations_117 : decode cX7_equations 117 = .ok (.iconst 0, 1) := by decide +kernel
theorem dX7_equations_118 : decode cX7_equations 118 = .ok (.istore_n 2, 1) := by decide +kernel
theorem dX7_equations_119 : decode cX7_equations 119 = .ok (.iload_n 2, 1) := by decide +kernel
theorem dX7_equations_120 : decode cX7_equations 120 = .ok (.aload_n 0, 1) := by decide +kernel
theorem dX7_equations_121 : decode cX7_equations 121 = .ok (.invokevirtual 183, 3) := by decide +kernel
theorem dX7_equations_124 : decode cX7_equations 124 = .ok (.if_icmp .ge 63, 3) := by decide +kernel
theorem dX7_equations_127 : decode cX7_equations 127 = .ok (.aload_n 0, 1) := by decide +kernel
theorem dX7_equations_128 : decode cX7_equations 128 = .ok (.getfield 45, 3) := by decide +kernel
theorem dX7_equations_131 : decode cX7_equations 131 = .ok (.iload_n 2, 1) := by decide +kernel
theorem dX7_equations_132 : decode cX7_equations 132 = .ok (.iaload, 1) := by decide +kernel
theorem dX7_equations_133 : decode cX7_equations 133 = .ok (.ifCond .lt 48, 3) := by decide +kernel
theorem dX7_equations_136 : decode cX7_equations 136 = .ok (.aload_n 0, 1) := by decide +kernel
theorem dX7_equations_137 : decode cX7_equations 137 = .ok (.getfield 32, 3) := by decide +kernel
theorem dX7_equations_140 : decode cX7_equations 140 = .ok (.iconst 5, 1) := by decide +kernel
theorem dX7_equations_141 : decode cX7_equations 141 = .ok (.aload_n 0, 1) := by decide +kernel
theorem dX7_equations_142 : decode cX7_equations 142 = .ok (.getfield 45, 3) := by decide +kernel
theorem dX7_equations_145 : decode cX7_equations 145 = .ok (.iload_n 2, 1) := by decide +kernel
theorem dX7_equations_146 : decode cX7_equations 146 = .ok (.iaload, 1) := by decide +kernel
theorem dX7_equations_147 : decode cX7_equations 147 = .ok (.imul, 1) := by decide +kernel
theorem dX7_equations_148 : decode cX7_equations 148 = .ok (.ldc2_w 217, 3) := by decide +kernel
theorem dX7_equations_151 : decode cX7_equations 151 = .ok (.aload_n 0, 1) := by decide +kernel
theorem dX7_equations_152 : decode cX7_equations 152 = .ok (.iload_n 2, 1) := by decide +kernel
theorem dX7_equations_153 : decode cX7_equations 153 = .ok (.invokevirtual 201, 3) := by decide +kernel
theorem dX7_equations_156 : decode cX7_equations 156 = .ok (.i2l, 1) := by decide +kernel
theorem dX7_equations_157 : decode cX7_equations 157 = .ok (.lmul, 1) := by decide +kernel
theorem dX7_equations_158 : decode cX7_equations 158 = .ok (.lastore, 1) := by decide +kernel
theorem dX7_equations_159 : decode cX7_equations 159 = .ok (.aload_n 0, 1) := by decide +kernel
theorem dX7_equations_160 : decode cX7_equations 160 = .ok (.getfield 36, 3) := by decide +kernel
theorem dX7_equations_163 : decode cX7_equations 163 = .ok (.aload_n 0, 1) := by decide +kernel
theorem dX7_equations_164 : decode cX7_equations 164 = .ok (.getfield 45, 3) := by decide +kernel
theorem dX7_equations_167 : decode cX7_equations 167 = .ok (.iload_n 2, 1) := by decide +kernel
theorem dX7_equations_168 : decode cX7_equations 168 = .ok (.iaload, 1) := by decide +kernel
theorem dX7_equations_169 : decode cX7_equations 169 = .ok (.aload_n 0, 1) := by decide +kernel
theorem dX7_equations_170 : decode cX7_equations 170 = .ok (.getfield 7, 3) := by decide +kernel
theorem dX7_equations_173 : decode cX7_equations 173 = .ok (.bipush 6, 2) := by decide +kernel
theorem dX7_equations_175 : decode cX7_equations 175 = .ok (.iload_n 2, 1) := by decide +kernel
theorem dX7_equations_176 : decode cX7_equations 176 = .ok (.iadd, 1) := by decide +kernel
theorem dX7_equations_177 : decode cX7_equations 177 = .ok (.iaload, 1) := by decide +kernel
theorem dX7_equations_178 : decode cX7_equations 178 = .ok (.ineg, 1) := by decide +kernel
theorem dX7_equations_179 : decode cX7_equations 179 = .ok (.i2l, 1) := by decide +kernel
theorem dX7_equations_180 : decode cX7_equations 180 = .ok (.lastore, 1) := by decide +kernel
theorem dX7_equations_181 : decode cX7_equations 181 = .ok (.iinc 2 1, 3) := by decide +kernel
theorem dX7_equations_184 : decode cX7_equations 184 = .ok (.goto (-65), 3) := by decide +kernel
theorem dX7_equations_187 : decode cX7_equations 187 = .ok (.iconst 0, 1) := by decide +kernel
theorem dX7_equations_188 : decode cX7_equations 188 = .ok (.istore_n 2, 1) := by decide +kernel
theorem dX7_equations_189 : decode cX7_equations 189 = .ok (.iload_n 2, 1) := by decide +kernel
theorem dX7_equations_190 : decode cX7_equations 190 = .ok (.iconst 2, 1) := by decide +kernel
theorem dX7_equations_191 : decode cX7_equations 191 = .ok (.aload_n 0, 1) := by decide +kernel
theorem dX7_equations_192 : decode cX7_equations 192 = .ok (.invokevirtual 162, 3) := by decide +kernel
theorem dX7_equations_195 : decode cX7_equations 195 = .ok (.imul, 1) := by decide +kernel
theorem dX7_equations_196 : decode cX7_equations 196 = .ok (.if_icmp .ge 87, 3) := by decide +kernel
theorem dX7_equations_199 : decode cX7_equations 199 = .ok (.aload_n 0, 1) := by decide +kernel
theorem dX7_equations_200 : decode cX7_equations 200 = .ok (.getfield 45, 3) := by decide +kernel
theorem dX7_equations_203 : decode cX7_equations 203 = .ok (.aload_n 0, 1) := by decide +kernel
theorem dX7_equations_204 : decode cX7_equations 204 = .ok (.iload_n 2, 1) := by decide +kernel
theorem dX7_equations_205 : decode cX7_equations 205 = .ok (.invokevirtual 168, 3) := by decide +kernel
theorem dX7_equations_208 : decode cX7_equations 208 = .ok (.iaload, 1) := by decide +kernel
theorem dX7_equations_209 : decode cX7_equations 209 = .ok (.istore_n 3, 1) := by decide +kernel
theorem dX7_equations_210 : decode cX7_equations 210 = .ok (.aload_n 0, 1) := by decide +kernel
theorem dX7_equations_211 : decode cX7_equations 211 = .ok (.getfield 45, 3) := by decide +kernel
theorem dX7_equations_214 : decode cX7_equations 214 = .ok (.aload_n 0, 1) := by decide +kernel
theorem dX7_equations_215 : decode cX7_equations 215 = .ok (.iload_n 2, 1) := by decide +kernel
theorem dX7_equations_216 : decode cX7_equations 216 = .ok (.invokestatic 219, 3) := by decide +kernel
theorem dX7_equations_219 : decode cX7_equations 219 = .ok (.invokevirtual 168, 3) := by decide +kernel
theorem dX7_equations_222 : decode cX7_equations 222 = .ok (.iaload, 1) := by decide +kernel
theorem dX7_equations_223 : decode cX7_equations 223 = .ok (.istore 4, 2) := by decide +kernel
theorem dX7_equations_225 : decode cX7_equations 225 = .ok (.iload_n 3, 1) := by decide +kernel
theorem dX7_equations_226 : decode cX7_equations 226 = .ok (.ifCond .lt 18, 3) := by decide +kernel
theorem dX7_equations_229 : decode cX7_equations 229 = .ok (.aload_n 0, 1) := by decide +kernel
theorem dX7_equations_230 : decode cX7_equations 230 = .ok (.getfield 36, 3) := by decide +kernel
theorem dX7_equations_233 : decode cX7_equations 233 = .ok (.iload_n 3, 1) := by decide +kernel
theorem dX7_equations_234 : decode cX7_equations 234 = .ok (.dup2, 1) := by decide +kernel
theorem dX7_equations_235 : decode cX7_equations 235 = .ok (.laload, 1) := by decide +kernel
theorem dX7_equations_236 : decode cX7_equations 236 = .ok (.aload_n 0, 1) := by decide +kernel
theorem dX7_equations_237 : decode cX7_equations 237 = .ok (.iload_n 2, 1) := by decide +kernel
theorem dX7_equations_238 : decode cX7_equations 238 = .ok (.invokevirtual 165, 3) := by decide +kernel
theorem dX7_equations_241 : decode cX7_equations 241 = .ok (.i2l, 1) := by decide +kernel
theorem dX7_equations_242 : decode cX7_equations 242 = .ok (.lsub, 1) := by decide +kernel
theorem dX7_equations_243 : decode cX7_equations 243 = .ok (.lastore, 1) := by decide +kernel
theorem dX7_equations_244 : decode cX7_equations 244 = .ok (.iload_n 3, 1) := by decide +kernel
theorem dX7_equations_245 : decode cX7_equations 245 = .ok (.ifCond .lt 32, 3) := by decide +kernel
theorem dX7_equations_248 : decode cX7_equations 248 = .ok (.iload 4, 2) := by decide +kernel
theorem dX7_equations_250 : decode cX7_equations 250 = .ok (.ifCond .lt 27, 3) := by decide +kernel
theorem dX7_equations_253 : decode cX7_equations 253 = .ok (.aload_n 0, 1) := by decide +kernel
theorem dX7_equations_254 : decode cX7_equations 254 = .ok (.getfield 32, 3) := by decide +kernel
theorem dX7_equations_257 : decode cX7_equations 257 = .ok (.iconst 4, 1) := by decide +kernel
theorem dX7_equations_258 : decode cX7_equations 258 = .ok (.iload_n 3, 1) := by decide +kernel
theorem dX7_equations_259 : decode cX7_equations 259 = .ok (.imul, 1) := by decide +kernel
theorem dX7_equations_260 : decode cX7_equations 260 = .ok (.iload 4, 2) := by decide +kernel
theorem dX7_equations_262 : decode cX7_equations 262 = .ok (.iadd, 1) := by decide +kernel
theorem dX7_equations_263 : decode cX7_equations 263 = .ok (.dup2, 1) := by decide +kernel
theorem dX7_equations_264 : decode cX7_equations 264 = .ok (.laload, 1) := by decide +kernel
theorem dX7_equations_265 : decode cX7_equations 265 = .ok (.ldc2_w 222, 3) := by decide +kernel
theorem dX7_equations_268 : decode cX7_equations 268 = .ok (.aload_n 0, 1) := by decide +kernel
theorem dX7_equations_269 : decode cX7_equations 269 = .ok (.iload_n 2, 1) := by decide +kernel
theorem dX7_equations_270 : decode cX7_equations 270 = .ok (.invokevirtual 171, 3) := by decide +kernel
theorem dX7_equations_273 : decode cX7_equations 273 = .ok (.i2l, 1) := by decide +kernel
theorem dX7_equations_274 : decode cX7_equations 274 = .ok (.lmul, 1) := by decide +kernel
theorem dX7_equations_275 : decode cX7_equations 275 = .ok (.ladd, 1) := by decide +kernel
theorem dX7_equations_276 : decode cX7_equations 276 = .ok (.lastore, 1) := by decide +kernel
theorem dX7_equations_277 : decode cX7_equations 277 = .ok (.iinc 2 1, 3) := by decide +kernel
theorem dX7_equations_280 : decode cX7_equations 280 = .ok (.goto (-91), 3) := by decide +kernel
theorem dX7_equations_283 : decode cX7_equations 283 = .ok (.return_, 1) := by decide +kernel
theorem dX7_solved_0 : decode cX7_solved 0 = .ok (.iconst 0, 1) := by decide +kernel
theorem dX7_solved_1 : decode cX7_solved 1 = .ok (.istore_n 2, 1) := by decide +kernel
theorem dX7_solved_2 : decode cX7_solved 2 = .ok (.iload_n 2, 1) := by decide +kernel
theorem dX7_solved_3 : decode cX7_solved 3 = .ok (.bipush 16, 2) := by decide +kernel
theorem dX7_solved_5 : decode cX7_solved 5 = .ok (.if_icmp .ge 39, 3) := by decide +kernel
theorem dX7_solved_8 : decode cX7_solved 8 = .ok (.aload_n 0, 1) := by decide +kernel
theorem dX7_solved_9 : decode cX7_solved 9 = .ok (.getfield 39, 3) := by decide +kernel
theorem dX7_solved_12 : decode cX7_solved 12 = .ok (.iload_n 2, 1) := by decide +kernel
theorem dX7_solved_13 : decode cX7_solved 13 = .ok (.iload_n 2, 1) := by decide +kernel
theorem dX7_solved_14 : decode cX7_solved 14 = .ok (.iconst 4, 1) := by decide +kernel
theorem dX7_solved_15 : decode cX7_solved 15 = .ok (.irem, 1) := by decide +kernel
theorem dX7_solved_16 : decode cX7_solved 16 = .ok (.iload_n 1, 1) := by decide +kernel
theorem dX7_solved_17 : decode cX7_solved 17 = .ok (.if_icmp .ne 14, 3) := by decide +kernel
theorem dX7_solved_20 : decode cX7_solved 20 = .ok (.aload_n 0, 1) := by decide +kernel
theorem dX7_solved_21 : decode cX7_solved 21 = .ok (.getfield 36, 3) := by decide +kernel
theorem dX7_solved_24 : decode cX7_solved 24 = .ok (.iload_n 2, 1) := by decide +kernel
theorem dX7_solved_25 : decode cX7_solved 25 = .ok (.iconst 4, 1) := by decide +kernel
theorem dX7_solved_26 : decode cX7_solved 26 = .ok (.idiv, 1) := by decide +kernel
theorem dX7_solved_27 : decode cX7_solved 27 = .ok (.laload, 1) := by decide +kernel
theorem dX7_solved_28 : decode cX7_solved 28 = .ok (.goto 9, 3) := by decide +kernel
theorem dX7_solved_31 : decode cX7_solved 31 = .ok (.aload_n 0, 1) := by decide +kernel
theorem dX7_solved_32 : decode cX7_solved 32 = .ok (.getfield 32, 3) := by decide +kernel
theorem dX7_solved_35 : decode cX7_solved 35 = .ok (.iload_n 2, 1) := by decide +kernel
theorem dX7_solved_36 : decode cX7_solved 36 = .ok (.laload, 1) := by decide +kernel
theorem dX7_solved_37 : decode cX7_solved 37 = .ok (.lastore, 1) := by decide +kernel
theorem dX7_solved_38 : decode cX7_solved 38 = .ok (.iinc 2 1, 3) := by decide +kernel
theorem dX7_solved_41 : decode cX7_solved 41 = .ok (.goto (-39), 3) := by decide +kernel
theorem dX7_solved_44 : decode cX7_solved 44 = .ok (.aload_n 0, 1) := by decide +kernel
theorem dX7_solved_45 : decode cX7_solved 45 = .ok (.invokevirtual 224, 3) := by decide +kernel
theorem dX7_solved_48 : decode cX7_solved 48 = .ok (.lreturn, 1) := by decide +kernel
theorem dX7_solves_0 : decode cX7_solves 0 = .ok (.aload_n 0, 1) := by decide +kernel
theorem dX7_solves_1 : decode cX7_solves 1 = .ok (.invokevirtual 228, 3) := by decide +kernel
theorem dX7_solves_4 : decode cX7_solves 4 = .ok (.aload_n 0, 1) := by decide +kernel
theorem dX7_solves_5 : decode cX7_solves 5 = .ok (.aload_n 0, 1) := by decide +kernel
theorem dX7_solves_6 : decode cX7_solves 6 = .ok (.bipush (-4), 2) := by decide +kernel
theorem dX7_solves_8 : decode cX7_solves 8 = .ok (.invokevirtual 231, 3) := by decide +kernel
theorem dX7_solves_11 : decode cX7_solves 11 = .ok (.putfield 235, 3) := by decide +kernel
theorem dX7_solves_14 : decode cX7_solves 14 = .ok (.iconst 0, 1) := by decide +kernel
theorem dX7_solves_15 : decode cX7_solves 15 = .ok (.istore_n 1, 1) := by decide +kernel
theorem dX7_solves_16 : decode cX7_solves 16 = .ok (.iload_n 1, 1) := by decide +kernel
theorem dX7_solves_17 : decode cX7_solves 17 = .ok (.bipush 6, 2) := by decide +kernel
theorem dX7_solves_19 : decode cX7_solves 19 = .ok (.if_icmp .ge 38, 3) := by decide +kernel
theorem dX7_solves_22 : decode cX7_solves 22 = .ok (.aload_n 0, 1) := by decide +kernel
theorem dX7_solves_23 : decode cX7_solves 23 = .ok (.getfield 42, 3) := by decide +kernel
theorem dX7_solves_26 : decode cX7_solves 26 = .ok (.iload_n 1, 1) := by decide +kernel
theorem dX7_solves_27 : decode cX7_solves 27 = .ok (.aload_n 0, 1) := by decide +kernel
theorem dX7_solves_28 : decode cX7_solves 28 = .ok (.getfield 45, 3) := by decide +kernel
theorem dX7_solves_31 : decode cX7_solves 31 = .ok (.iload_n 1, 1) := by decide +kernel
theorem dX7_solves_32 : decode cX7_solves 32 = .ok (.iaload, 1) := by decide +kernel
theorem dX7_solves_33 : decode cX7_solves 33 = .ok (.ifCond .lt 16, 3) := by decide +kernel
theorem dX7_solves_36 : decode cX7_solves 36 = .ok (.aload_n 0, 1) := by decide +kernel
theorem dX7_solves_37 : decode cX7_solves 37 = .ok (.aload_n 0, 1) := by decide +kernel
theorem dX7_solves_38 : decode cX7_solves 38 = .ok (.getfield 45, 3) := by decide +kernel
theorem dX7_solves_41 : decode cX7_solves 41 = .ok (.iload_n 1, 1) := by decide +kernel
theorem dX7_solves_42 : decode cX7_solves 42 = .ok (.iaload, 1) := by decide +kernel
theorem dX7_solves_43 : decode cX7_solves 43 = .ok (.invokevirtual 231, 3) := by decide +kernel
theorem dX7_solves_46 : decode cX7_solves 46 = .ok (.goto 4, 3) := by decide +kernel
theorem dX7_solves_49 : decode cX7_solves 49 = .ok (.lconst 0, 1) := by decide +kernel
theorem dX7_solves_50 : decode cX7_solves 50 = .ok (.lastore, 1) := by decide +kernel
theorem dX7_solves_51 : decode cX7_solves 51 = .ok (.iinc 1 1, 3) := by decide +kernel
theorem dX7_solves_54 : decode cX7_solves 54 = .ok (.goto (-38), 3) := by decide +kernel
theorem dX7_solves_57 : decode cX7_solves 57 = .ok (.return_, 1) := by decide +kernel
theorem dX7_down_0 : decode cX7_down 0 = .ok (.lload_n 0, 1) := by decide +kernel
theorem dX7_down_1 : decode cX7_down 1 = .ok (.lload_n 2, 1) := by decide +kernel
theorem dX7_down_2 : decode cX7_down 2 = .ok (.ldiv, 1) := by decide +kernel
theorem dX7_down_3 : decode cX7_down 3 = .ok (.lstore 4, 2) := by decide +kernel
theorem dX7_down_5 : decode cX7_down 5 = .ok (.lload 4, 2) := by decide +kernel
theorem dX7_down_7 : decode cX7_down 7 = .ok (.lload_n 2, 1) := by decide +kernel
theorem dX7_down_8 : decode cX7_down 8 = .ok (.lmul, 1) := by decide +kernel
theorem dX7_down_9 : decode cX7_down 9 = .ok (.lload_n 0, 1) := by decide +kernel
theorem dX7_down_10 : decode cX7_down 10 = .ok (.lcmp, 1) := by decide +kernel
theorem dX7_down_11 : decode cX7_down 11 = .ok (.ifCond .le 10, 3) := by decide +kernel
theorem dX7_down_14 : decode cX7_down 14 = .ok (.lload 4, 2) := by decide +kernel
theorem dX7_down_16 : decode cX7_down 16 = .ok (.lconst 1, 1) := by decide +kernel
theorem dX7_down_17 : decode cX7_down 17 = .ok (.lsub, 1) := by decide +kernel
theorem dX7_down_18 : decode cX7_down 18 = .ok (.goto 5, 3) := by decide +kernel
theorem dX7_down_21 : decode cX7_down 21 = .ok (.lload 4, 2) := by decide +kernel
theorem dX7_down_23 : decode cX7_down 23 = .ok (.lreturn, 1) := by decide +kernel
theorem dX7_sureOf_0 : decode cX7_sureOf 0 = .ok (.aload_n 0, 1) := by decide +kernel
theorem dX7_sureOf_1 : decode cX7_sureOf 1 = .ok (.invokevirtual 239, 3) := by decide +kernel
theorem dX7_sureOf_4 : decode cX7_sureOf 4 = .ok (.aload_n 0, 1) := by decide +kernel
theorem dX7_sureOf_5 : decode cX7_sureOf 5 = .ok (.getfield 42, 3) := by decide +kernel
theorem dX7_sureOf_8 : decode cX7_sureOf 8 = .ok (.aload_n 0, 1) := by decide +kernel
theorem dX7_sureOf_9 : decode cX7_sureOf 9 = .ok (.iload_n 1, 1) := by decide +kernel
theorem dX7_sureOf_10 : decode cX7_sureOf 10 = .ok (.invokevirtual 168, 3) := by decide +kernel
theorem dX7_sureOf_13 : decode cX7_sureOf 13 = .ok (.laload, 1) := by decide +kernel
theorem dX7_sureOf_14 : decode cX7_sureOf 14 = .ok (.lstore_n 2, 1) := by decide +kernel
theorem dX7_sureOf_15 : decode cX7_sureOf 15 = .ok (.aload_n 0, 1) := by decide +kernel
theorem dX7_sureOf_16 : decode cX7_sureOf 16 = .ok (.getfield 42, 3) := by decide +kernel
theorem dX7_sureOf_19 : decode cX7_sureOf 19 = .ok (.aload_n 0, 1) := by decide +kernel
theorem dX7_sureOf_20 : decode cX7_sureOf 20 = .ok (.iload_n 1, 1) := by decide +kernel
theorem dX7_sureOf_21 : decode cX7_sureOf 21 = .ok (.invokestatic 219, 3) := by decide +kernel
theorem dX7_sureOf_24 : decode cX7_sureOf 24 = .ok (.invokevirtual 168, 3) := by decide +kernel
theorem dX7_sureOf_27 : decode cX7_sureOf 27 = .ok (.laload, 1) := by decide +kernel
theorem dX7_sureOf_28 : decode cX7_sureOf 28 = .ok (.lstore 4, 2) := by decide +kernel
theorem dX7_sureOf_30 : decode cX7_sureOf 30 = .ok (.lload_n 2, 1) := by decide +kernel
theorem dX7_sureOf_31 : decode cX7_sureOf 31 = .ok (.aload_n 0, 1) := by decide +kernel
theorem dX7_sureOf_32 : decode cX7_sureOf 32 = .ok (.getfield 235, 3) := by decide +kernel
theorem dX7_sureOf_35 : decode cX7_sureOf 35 = .ok (.invokestatic 242, 3) := by decide +kernel
theorem dX7_sureOf_38 : decode cX7_sureOf 38 = .ok (.lstore 6, 2) := by decide +kernel
theorem dX7_sureOf_40 : decode cX7_sureOf 40 = .ok (.lload 4, 2) := by decide +kernel
theorem dX7_sureOf_42 : decode cX7_sureOf 42 = .ok (.aload_n 0, 1) := by decide +kernel
theorem dX7_sureOf_43 : decode cX7_sureOf 43 = .ok (.getfield 235, 3) := by decide +kernel
theorem dX7_sureOf_46 : decode cX7_sureOf 46 = .ok (.invokestatic 242, 3) := by decide +kernel
theorem dX7_sureOf_49 : decode cX7_sureOf 49 = .ok (.lstore 8, 2) := by decide +kernel
theorem dX7_sureOf_51 : decode cX7_sureOf 51 = .ok (.ldc2_w 222, 3) := by decide +kernel
theorem dX7_sureOf_54 : decode cX7_sureOf 54 = .ok (.aload_n 0, 1) := by decide +kernel
theorem dX7_sureOf_55 : decode cX7_sureOf 55 = .ok (.iload_n 1, 1) := by decide +kernel
theorem dX7_sureOf_56 : decode cX7_sureOf 56 = .ok (.invokevirtual 171, 3) := by decide +kernel
theorem dX7_sureOf_59 : decode cX7_sureOf 59 = .ok (.i2l, 1) := by decide +kernel
theorem dX7_sureOf_60 : decode cX7_sureOf 60 = .ok (.lmul, 1) := by decide +kernel
theorem dX7_sureOf_61 : decode cX7_sureOf 61 = .ok (.lstore 10, 2) := by decide +kernel
theorem dX7_sureOf_63 : decode cX7_sureOf 63 = .ok (.lload 10, 2) := by decide +kernel
theorem dX7_sureOf_65 : decode cX7_sureOf 65 = .ok (.ldc2_w 222, 3) := by decide +kernel
theorem dX7_sureOf_68 : decode cX7_sureOf 68 = .ok (.lload_n 2, 1) := by decide +kernel
theorem dX7_sureOf_69 : decode cX7_sureOf 69 = .ok (.lload 6, 2) := by decide +kernel
theorem dX7_sureOf_71 : decode cX7_sureOf 71 = .ok (.aload_n 0, 1) := by decide +kernel
theorem dX7_sureOf_72 : decode cX7_sureOf 72 = .ok (.getfield 235, 3) := by decide +kernel
theorem dX7_sureOf_75 : decode cX7_sureOf 75 = .ok (.lmul, 1) := by decide +kernel
theorem dX7_sureOf_76 : decode cX7_sureOf 76 = .ok (.lsub, 1) := by decide +kernel
theorem dX7_sureOf_77 : decode cX7_sureOf 77 = .ok (.lmul, 1) := by decide +kernel
theorem dX7_sureOf_78 : decode cX7_sureOf 78 = .ok (.lload 4, 2) := by decide +kernel
theorem dX7_sureOf_80 : decode cX7_sureOf 80 = .ok (.lload 8, 2) := by decide +kernel
theorem dX7_sureOf_82 : decode cX7_sureOf 82 = .ok (.aload_n 0, 1) := by decide +kernel
theorem dX7_sureOf_83 : decode cX7_sureOf 83 = .ok (.getfield 235, 3) := by decide +kernel
theorem dX7_sureOf_86 : decode cX7_sureOf 86 = .ok (.lmul, 1) := by decide +kernel
theorem dX7_sureOf_87 : decode cX7_sureOf 87 = .ok (.lsub, 1) := by decide +kernel
theorem dX7_sureOf_88 : decode cX7_sureOf 88 = .ok (.ladd, 1) := by decide +kernel
theorem dX7_sureOf_89 : decode cX7_sureOf 89 = .ok (.lmul, 1) := by decide +kernel
theorem dX7_sureOf_90 : decode cX7_sureOf 90 = .ok (.lstore 12, 2) := by decide +kernel
theorem dX7_sureOf_92 : decode cX7_sureOf 92 = .ok (.aload_n 0, 1) := by decide +kernel
theorem dX7_sureOf_93 : decode cX7_sureOf 93 = .ok (.iload_n 1, 1) := by decide +kernel
theorem dX7_sureOf_94 : decode cX7_sureOf 94 = .ok (.invokevirtual 165, 3) := by decide +kernel
theorem dX7_sureOf_97 : decode cX7_sureOf 97 = .ok (.i2l, 1) := by decide +kernel
theorem dX7_sureOf_98 : decode cX7_sureOf 98 = .ok (.lload 10, 2) := by decide +kernel
theorem dX7_sureOf_100 : decode cX7_sureOf 100 = .ok (.ldc2_w 222, 3) := by decide +kernel
theorem dX7_sureOf_103 : decode cX7_sureOf 103 = .ok (.lload 6, 2) := by decide +kernel
theorem dX7_sureOf_105 : decode cX7_sureOf 105 = .ok (.lmul, 1) := by decide +kernel
theorem dX7_sureOf_106 : decode cX7_sureOf 106 = .ok (.lload 8, 2) := by decide +kernel
theorem dX7_sureOf_108 : decode cX7_sureOf 108 = .ok (.ladd, 1) := by decide +kernel
theorem dX7_sureOf_109 : decode cX7_sureOf 109 = .ok (.lmul, 1) := by decide +kernel
theorem dX7_sureOf_110 : decode cX7_sureOf 110 = .ok (.ladd, 1) := by decide +kernel
theorem dX7_sureOf_111 : decode cX7_sureOf 111 = .ok (.lload 12, 2) := by decide +kernel
theorem dX7_sureOf_113 : decode cX7_sureOf 113 = .ok (.aload_n 0, 1) := by decide +kernel
theorem dX7_sureOf_114 : decode cX7_sureOf 114 = .ok (.getfield 235, 3) := by decide +kernel
theorem dX7_sureOf_117 : decode cX7_sureOf 117 = .ok (.invokestatic 242, 3) := by decide +kernel
theorem dX7_sureOf_120 : decode cX7_sureOf 120 = .ok (.ladd, 1) := by decide +kernel
theorem dX7_sureOf_121 : decode cX7_sureOf 121 = .ok (.l2i, 1) := by decide +kernel
theorem dX7_sureOf_122 : decode cX7_sureOf 122 = .ok (.ireturn, 1) := by decide +kernel
theorem dX7_moment_0 : decode cX7_moment 0 = .ok (.aload_n 0, 1) := by decide +kernel
theorem dX7_moment_1 : decode cX7_moment 1 = .ok (.iload_n 1, 1) := by decide +kernel
theorem dX7_moment_2 : decode cX7_moment 2 = .ok (.invokevirtual 246, 3) := by decide +kernel
theorem dX7_moment_5 : decode cX7_moment 5 = .ok (.ifCond .eq 15, 3) := by decide +kernel
theorem dX7_moment_8 : decode cX7_moment 8 = .ok (.iload_n 2, 1) := by decide +kernel
theorem dX7_moment_9 : decode cX7_moment 9 = .ok (.i2l, 1) := by decide +kernel
theorem dX7_moment_10 : decode cX7_moment 10 = .ok (.lconst 0, 1) := by decide +kernel
theorem dX7_moment_11 : decode cX7_moment 11 = .ok (.ldc2_w 249, 3) := by decide +kernel
theorem dX7_moment_14 : decode cX7_moment 14 = .ok (.invokestatic 66, 3) := by decide +kernel
theorem dX7_moment_17 : decode cX7_moment 17 = .ok (.ifCond .ne 6, 3) := by decide +kernel
theorem dX7_moment_20 : decode cX7_moment 20 = .ok (.ldc 204, 2) := by decide +kernel
theorem dX7_moment_22 : decode cX7_moment 22 = .ok (.ireturn, 1) := by decide +kernel
theorem dX7_moment_23 : decode cX7_moment 23 = .ok (.iload_n 2, 1) := by decide +kernel
theorem dX7_moment_24 : decode cX7_moment 24 = .ok (.tableswitch 47 0 2 #[28, 34, 41], 28) := by decide +kernel
theorem dX7_moment_52 : decode cX7_moment 52 = .ok (.aload_n 0, 1) := by decide +kernel
theorem dX7_moment_53 : decode cX7_moment 53 = .ok (.iload_n 1, 1) := by decide +kernel
theorem dX7_moment_54 : decode cX7_moment 54 = .ok (.invokevirtual 165, 3) := by decide +kernel
theorem dX7_moment_57 : decode cX7_moment 57 = .ok (.ireturn, 1) := by decide +kernel
theorem dX7_moment_58 : decode cX7_moment 58 = .ok (.aload_n 0, 1) := by decide +kernel
theorem dX7_moment_59 : decode cX7_moment 59 = .ok (.getfield 22, 3) := by decide +kernel
theorem dX7_moment_62 : decode cX7_moment 62 = .ok (.iload_n 1, 1) := by decide +kernel
theorem dX7_moment_63 : decode cX7_moment 63 = .ok (.iaload, 1) := by decide +kernel
theorem dX7_moment_64 : decode cX7_moment 64 = .ok (.ireturn, 1) := by decide +kernel
theorem dX7_moment_65 : decode cX7_moment 65 = .ok (.aload_n 0, 1) := by decide +kernel
theorem dX7_moment_66 : decode cX7_moment 66 = .ok (.iload_n 1, 1) := by decide +kernel
theorem dX7_moment_67 : decode cX7_moment 67 = .ok (.invokevirtual 251, 3) := by decide +kernel
theorem dX7_moment_70 : decode cX7_moment 70 = .ok (.ireturn, 1) := by decide +kernel
theorem dX7_moment_71 : decode cX7_moment 71 = .ok (.aload_n 0, 1) := by decide +kernel
theorem dX7_moment_72 : decode cX7_moment 72 = .ok (.getfield 22, 3) := by decide +kernel
theorem dX7_moment_75 : decode cX7_moment 75 = .ok (.iload_n 1, 1) := by decide +kernel
theorem dX7_moment_76 : decode cX7_moment 76 = .ok (.iaload, 1) := by decide +kernel
theorem dX7_moment_77 : decode cX7_moment 77 = .ok (.aload_n 0, 1) := by decide +kernel
theorem dX7_moment_78 : decode cX7_moment 78 = .ok (.iload_n 1, 1) := by decide +kernel
theorem dX7_moment_79 : decode cX7_moment 79 = .ok (.invokevirtual 251, 3) := by decide +kernel
theorem dX7_moment_82 : decode cX7_moment 82 = .ok (.isub, 1) := by decide +kernel
theorem dX7_moment_83 : decode cX7_moment 83 = .ok (.ireturn, 1) := by decide +kernel
theorem dX7_sharesOf_0 : decode cX7_sharesOf 0 = .ok (.aload_n 0, 1) := by decide +kernel
theorem dX7_sharesOf_1 : decode cX7_sharesOf 1 = .ok (.iload_n 1, 1) := by decide +kernel
theorem dX7_sharesOf_2 : decode cX7_sharesOf 2 = .ok (.invokevirtual 180, 3) := by decide +kernel
theorem dX7_sharesOf_5 : decode cX7_sharesOf 5 = .ok (.ineg, 1) := by decide +kernel
theorem dX7_sharesOf_6 : decode cX7_sharesOf 6 = .ok (.istore_n 2, 1) := by decide +kernel
theorem dX7_sharesOf_7 : decode cX7_sharesOf 7 = .ok (.aload_n 0, 1) := by decide +kernel
theorem dX7_sharesOf_8 : decode cX7_sharesOf 8 = .ok (.iload_n 1, 1) := by decide +kernel
theorem dX7_sharesOf_9 : decode cX7_sharesOf 9 = .ok (.invokevirtual 201, 3) := by decide +kernel
theorem dX7_sharesOf_12 : decode cX7_sharesOf 12 = .ok (.istore_n 3, 1) := by decide +kernel
theorem dX7_sharesOf_13 : decode cX7_sharesOf 13 = .ok (.iload_n 2, 1) := by decide +kernel
theorem dX7_sharesOf_14 : decode cX7_sharesOf 14 = .ok (.istore 4, 2) := by decide +kernel
theorem dX7_sharesOf_16 : decode cX7_sharesOf 16 = .ok (.iconst 0, 1) := by decide +kernel
theorem dX7_sharesOf_17 : decode cX7_sharesOf 17 = .ok (.istore 5, 2) := by decide +kernel
theorem dX7_sharesOf_19 : decode cX7_sharesOf 19 = .ok (.iload 5, 2) := by decide +kernel
theorem dX7_sharesOf_21 : decode cX7_sharesOf 21 = .ok (.bipush 20, 2) := by decide +kernel
theorem dX7_sharesOf_23 : decode cX7_sharesOf 23 = .ok (.if_icmp .ge 17, 3) := by decide +kernel
theorem dX7_sharesOf_26 : decode cX7_sharesOf 26 = .ok (.aload_n 0, 1) := by decide +kernel
theorem dX7_sharesOf_27 : decode cX7_sharesOf 27 = .ok (.getfield 48, 3) := by decide +kernel
theorem dX7_sharesOf_30 : decode cX7_sharesOf 30 = .ok (.iload 5, 2) := by decide +kernel
theorem dX7_sharesOf_32 : decode cX7_sharesOf 32 = .ok (.iconst 0, 1) := by decide +kernel
theorem dX7_sharesOf_33 : decode cX7_sharesOf 33 = .ok (.iastore, 1) := by decide +kernel
theorem dX7_sharesOf_34 : decode cX7_sharesOf 34 = .ok (.iinc 5 1, 3) := by decide +kernel
theorem dX7_sharesOf_37 : decode cX7_sharesOf 37 = .ok (.goto (-18), 3) := by decide +kernel
theorem dX7_sharesOf_40 : decode cX7_sharesOf 40 = .ok (.iconst 0, 1) := by decide +kernel
theorem dX7_sharesOf_41 : decode cX7_sharesOf 41 = .ok (.istore 5, 2) := by decide +kernel
theorem dX7_sharesOf_43 : decode cX7_sharesOf 43 = .ok (.iload 5, 2) := by decide +kernel
theorem dX7_sharesOf_45 : decode cX7_sharesOf 45 = .ok (.iconst 2, 1) := by decide +kernel
theorem dX7_sharesOf_46 : decode cX7_sharesOf 46 = .ok (.aload_n 0, 1) := by decide +kernel
theorem dX7_sharesOf_47 : decode cX7_sharesOf 47 = .ok (.invokevirtual 162, 3) := by decide +kernel
theorem dX7_sharesOf_50 : decode cX7_sharesOf 50 = .ok (.imul, 1) := by decide +kernel
theorem dX7_sharesOf_51 : decode cX7_sharesOf 51 = .ok (.if_icmp .ge 52, 3) := by decide +kernel
theorem dX7_sharesOf_54 : decode cX7_sharesOf 54 = .ok (.aload_n 0, 1) := by decide +kernel
theorem dX7_sharesOf_55 : decode cX7_sharesOf 55 = .ok (.iload 5, 2) := by decide +kernel
theorem dX7_sharesOf_57 : decode cX7_sharesOf 57 = .ok (.invokevirtual 168, 3) := by decide +kernel
theorem dX7_sharesOf_60 : decode cX7_sharesOf 60 = .ok (.iload_n 1, 1) := by decide +kernel
theorem dX7_sharesOf_61 : decode cX7_sharesOf 61 = .ok (.if_icmp .ne 36, 3) := by decide +kernel
theorem dX7_sharesOf_64 : decode cX7_sharesOf 64 = .ok (.aload_n 0, 1) := by decide +kernel
theorem dX7_sharesOf_65 : decode cX7_sharesOf 65 = .ok (.getfield 48, 3) := by decide +kernel
theorem dX7_sharesOf_68 : decode cX7_sharesOf 68 = .ok (.iload 5, 2) := by decide +kernel
theorem dX7_sharesOf_70 : decode cX7_sharesOf 70 = .ok (.iload_n 2, 1) := by decide +kernel
theorem dX7_sharesOf_71 : decode cX7_sharesOf 71 = .ok (.i2l, 1) := by decide +kernel
theorem dX7_sharesOf_72 : decode cX7_sharesOf 72 = .ok (.aload_n 0, 1) := by decide +kernel
theorem dX7_sharesOf_73 : decode cX7_sharesOf 73 = .ok (.iload 5, 2) := by decide +kernel
theorem dX7_sharesOf_75 : decode cX7_sharesOf 75 = .ok (.invokevirtual 171, 3) := by decide +kernel
theorem dX7_sharesOf_78 : decode cX7_sharesOf 78 = .ok (.i2l, 1) := by decide +kernel
theorem dX7_sharesOf_79 : decode cX7_sharesOf 79 = .ok (.lmul, 1) := by decide +kernel
theorem dX7_sharesOf_80 : decode cX7_sharesOf 80 = .ok (.iload_n 3, 1) := by decide +kernel
theorem dX7_sharesOf_81 : decode cX7_sharesOf 81 = .ok (.i2l, 1) := by decide +kernel
theorem dX7_sharesOf_82 : decode cX7_sharesOf 82 = .ok (.ldiv, 1) := by decide +kernel
theorem dX7_sharesOf_83 : decode cX7_sharesOf 83 = .ok (.l2i, 1) := by decide +kernel
theorem dX7_sharesOf_84 : decode cX7_sharesOf 84 = .ok (.iastore, 1) := by decide +kernel
theorem dX7_sharesOf_85 : decode cX7_sharesOf 85 = .ok (.iload 4, 2) := by decide +kernel
theorem dX7_sharesOf_87 : decode cX7_sharesOf 87 = .ok (.aload_n 0, 1) := by decide +kernel
theorem dX7_sharesOf_88 : decode cX7_sharesOf 88 = .ok (.getfield 48, 3) := by decide +kernel
theorem dX7_sharesOf_91 : decode cX7_sharesOf 91 = .ok (.iload 5, 2) := by decide +kernel
theorem dX7_sharesOf_93 : decode cX7_sharesOf 93 = .ok (.iaload, 1) := by decide +kernel
theorem dX7_sharesOf_94 : decode cX7_sharesOf 94 = .ok (.isub, 1) := by decide +kernel
theorem dX7_sharesOf_95 : decode cX7_sharesOf 95 = .ok (.istore 4, 2) := by decide +kernel
theorem dX7_sharesOf_97 : decode cX7_sharesOf 97 = .ok (.iinc 5 1, 3) := by decide +kernel
theorem dX7_sharesOf_100 : decode cX7_sharesOf 100 = .ok (.goto (-57), 3) := by decide +kernel
theorem dX7_sharesOf_103 : decode cX7_sharesOf 103 = .ok (.iload 4, 2) := by decide +kernel
theorem dX7_sharesOf_105 : decode cX7_sharesOf 105 = .ok (.ifCond .ge 7, 3) := by decide +kernel
theorem dX7_sharesOf_108 : decode cX7_sharesOf 108 = .ok (.iconst (-1), 1) := by decide +kernel
theorem dX7_sharesOf_109 : decode cX7_sharesOf 109 = .ok (.goto 4, 3) := by decide +kernel
theorem dX7_sharesOf_112 : decode cX7_sharesOf 112 = .ok (.iconst 1, 1) := by decide +kernel
theorem dX7_sharesOf_113 : decode cX7_sharesOf 113 = .ok (.istore 5, 2) := by decide +kernel
theorem dX7_sharesOf_115 : decode cX7_sharesOf 115 = .ok (.iload 4, 2) := by decide +kernel
theorem dX7_sharesOf_117 : decode cX7_sharesOf 117 = .ok (.invokestatic 189, 3) := by decide +kernel
theorem dX7_sharesOf_120 : decode cX7_sharesOf 120 = .ok (.istore 6, 2) := by decide +kernel
theorem dX7_sharesOf_122 : decode cX7_sharesOf 122 = .ok (.iload 6, 2) := by decide +kernel
theorem dX7_sharesOf_124 : decode cX7_sharesOf 124 = .ok (.ifCond .le 32, 3) := by decide +kernel
theorem dX7_sharesOf_127 : decode cX7_sharesOf 127 = .ok (.aload_n 0, 1) := by decide +kernel
theorem dX7_sharesOf_128 : decode cX7_sharesOf 128 = .ok (.getfield 48, 3) := by decide +kernel
theorem dX7_sharesOf_131 : decode cX7_sharesOf 131 = .ok (.aload_n 0, 1) := by decide +kernel
theorem dX7_sharesOf_132 : decode cX7_sharesOf 132 = .ok (.iload_n 1, 1) := by decide +kernel
theorem dX7_sharesOf_133 : decode cX7_sharesOf 133 = .ok (.iload 4, 2) := by decide +kernel
theorem dX7_sharesOf_135 : decode cX7_sharesOf 135 = .ok (.invokestatic 189, 3) := by decide +kernel
theorem dX7_sharesOf_138 : decode cX7_sharesOf 138 = .ok (.iload 6, 2) := by decide +kernel
theorem dX7_sharesOf_140 : decode cX7_sharesOf 140 = .ok (.isub, 1) := by decide +kernel
theorem dX7_sharesOf_141 : decode cX7_sharesOf 141 = .ok (.invokevirtual 254, 3) := by decide +kernel
theorem dX7_sharesOf_144 : decode cX7_sharesOf 144 = .ok (.dup2, 1) := by decide +kernel
theorem dX7_sharesOf_145 : decode cX7_sharesOf 145 = .ok (.iaload, 1) := by decide +kernel
theorem dX7_sharesOf_146 : decode cX7_sharesOf 146 = .ok (.iload 5, 2) := by decide +kernel
theorem dX7_sharesOf_148 : decode cX7_sharesOf 148 = .ok (.iadd, 1) := by decide +kernel
theorem dX7_sharesOf_149 : decode cX7_sharesOf 149 = .ok (.iastore, 1) := by decide +kernel
theorem dX7_sharesOf_150 : decode cX7_sharesOf 150 = .ok (.iinc 6 (-1), 3) := by decide +kernel
theorem dX7_sharesOf_153 : decode cX7_sharesOf 153 = .ok (.goto (-31), 3) := by decide +kernel
theorem dX7_sharesOf_156 : decode cX7_sharesOf 156 = .ok (.return_, 1) := by decide +kernel
theorem dX7_nextStiff_0 : decode cX7_nextStiff 0 = .ok (.iconst 0, 1) := by decide +kernel
theorem dX7_nextStiff_1 : decode cX7_nextStiff 1 = .ok (.istore_n 3, 1) := by decide +kernel
theorem dX7_nextStiff_2 : decode cX7_nextStiff 2 = .ok (.iload_n 3, 1) := by decide +kernel
theorem dX7_nextStiff_3 : decode cX7_nextStiff 3 = .ok (.iconst 2, 1) := by decide +kernel
theorem dX7_nextStiff_4 : decode cX7_nextStiff 4 = .ok (.aload_n 0, 1) := by decide +kernel
theorem dX7_nextStiff_5 : decode cX7_nextStiff 5 = .ok (.invokevirtual 162, 3) := by decide +kernel
theorem dX7_nextStiff_8 : decode cX7_nextStiff 8 = .ok (.imul, 1) := by decide +kernel
theorem dX7_nextStiff_9 : decode cX7_nextStiff 9 = .ok (.if_icmp .ge 115, 3) := by decide +kernel
theorem dX7_nextStiff_12 : decode cX7_nextStiff 12 = .ok (.iconst 0, 1) := by decide +kernel
theorem dX7_nextStiff_13 : decode cX7_nextStiff 13 = .ok (.istore 4, 2) := by decide +kernel
theorem dX7_nextStiff_15 : decode cX7_nextStiff 15 = .ok (.iconst 0, 1) := by decide +kernel
theorem dX7_nextStiff_16 : decode cX7_nextStiff 16 = .ok (.istore 5, 2) := by decide +kernel
theorem dX7_nextStiff_18 : decode cX7_nextStiff 18 = .ok (.iload 5, 2) := by decide +kernel
theorem dX7_nextStiff_20 : decode cX7_nextStiff 20 = .ok (.iconst 2, 1) := by decide +kernel
theorem dX7_nextStiff_21 : decode cX7_nextStiff 21 = .ok (.aload_n 0, 1) := by decide +kernel
theorem dX7_nextStiff_22 : decode cX7_nextStiff 22 = .ok (.invokevirtual 162, 3) := by decide +kernel
theorem dX7_nextStiff_25 : decode cX7_nextStiff 25 = .ok (.imul, 1) := by decide +kernel
theorem dX7_nextStiff_26 : decode cX7_nextStiff 26 = .ok (.if_icmp .ge 75, 3) := by decide +kernel
theorem dX7_nextStiff_29 : decode cX7_nextStiff 29 = .ok (.aload_n 0, 1) := by decide +kernel
theorem dX7_nextStiff_30 : decode cX7_nextStiff 30 = .ok (.iload 5, 2) := by decide +kernel
theorem dX7_nextStiff_32 : decode cX7_nextStiff 32 = .ok (.invokevirtual 171, 3) := by decide +kernel
theorem dX7_nextStiff_35 : decode cX7_nextStiff 35 = .ok (.aload_n 0, 1) := by decide +kernel
theorem dX7_nextStiff_36 : decode cX7_nextStiff 36 = .ok (.iload_n 3, 1) := by decide +kernel
theorem dX7_nextStiff_37 : decode cX7_nextStiff 37 = .ok (.invokevirtual 171, 3) := by decide +kernel
theorem dX7_nextStiff_40 : decode cX7_nextStiff 40 = .ok (.if_icmp .gt 23, 3) := by decide +kernel
theorem dX7_nextStiff_43 : decode cX7_nextStiff 43 = .ok (.aload_n 0, 1) := by decide +kernel
theorem dX7_nextStiff_44 : decode cX7_nextStiff 44 = .ok (.iload 5, 2) := by decide +kernel
theorem dX7_nextStiff_46 : decode cX7_nextStiff 46 = .ok (.invokevirtual 171, 3) := by decide +kernel
theorem dX7_nextStiff_49 : decode cX7_nextStiff 49 = .ok (.aload_n 0, 1) := by decide +kernel
theorem dX7_nextStiff_50 : decode cX7_nextStiff 50 = .ok (.iload_n 3, 1) := by decide +kernel
theorem dX7_nextStiff_51 : decode cX7_nextStiff 51 = .ok (.invokevirtual 171, 3) := by decide +kernel
theorem dX7_nextStiff_54 : decode cX7_nextStiff 54 = .ok (.if_icmp .ne 13, 3) := by decide +kernel
theorem dX7_nextStiff_57 : decode cX7_nextStiff 57 = .ok (.iload 5, 2) := by decide +kernel
theorem dX7_nextStiff_59 : decode cX7_nextStiff 59 = .ok (.iload_n 3, 1) := by decide +kernel
theorem dX7_nextStiff_60 : decode cX7_nextStiff 60 = .ok (.if_icmp .ge 7, 3) := by decide +kernel
theorem dX7_nextStiff_63 : decode cX7_nextStiff 63 = .ok (.iconst 1, 1) := by decide +kernel
theorem dX7_nextStiff_64 : decode cX7_nextStiff 64 = .ok (.goto 4, 3) := by decide +kernel
theorem dX7_nextStiff_67 : decode cX7_nextStiff 67 = .ok (.iconst 0, 1) := by decide +kernel
theorem dX7_nextStiff_68 : decode cX7_nextStiff 68 = .ok (.istore 6, 2) := by decide +kernel
theorem dX7_nextStiff_70 : decode cX7_nextStiff 70 = .ok (.iload 4, 2) := by decide +kernel
theorem dX7_nextStiff_72 : decode cX7_nextStiff 72 = .ok (.aload_n 0, 1) := by decide +kernel
theorem dX7_nextStiff_73 : decode cX7_nextStiff 73 = .ok (.iload 5, 2) := by decide +kernel
theorem dX7_nextStiff_75 : decode cX7_nextStiff 75 = .ok (.invokevirtual 168, 3) := by decide +kernel
theorem dX7_nextStiff_78 : decode cX7_nextStiff 78 = .ok (.iload_n 1, 1) := by decide +kernel
theorem dX7_nextStiff_79 : decode cX7_nextStiff 79 = .ok (.if_icmp .ne 12, 3) := by decide +kernel
theorem dX7_nextStiff_82 : decode cX7_nextStiff 82 = .ok (.iload 6, 2) := by decide +kernel
theorem dX7_nextStiff_84 : decode cX7_nextStiff 84 = .ok (.ifCond .eq 7, 3) := by decide +kernel
theorem dX7_nextStiff_87 : decode cX7_nextStiff 87 = .ok (.iconst 1, 1) := by decide +kernel
theorem dX7_nextStiff_88 : decode cX7_nextStiff 88 = .ok (.goto 4, 3) := by decide +kernel
theorem dX7_nextStiff_91 : decode cX7_nextStiff 91 = .ok (.iconst 0, 1) := by decide +kernel
theorem dX7_nextStiff_92 : decode cX7_nextStiff 92 = .ok (.iadd, 1) := by decide +kernel
theorem dX7_nextStiff_93 : decode cX7_nextStiff 93 = .ok (.istore 4, 2) := by decide +kernel
theorem dX7_nextStiff_95 : decode cX7_nextStiff 95 = .ok (.iinc 5 1, 3) := by decide +kernel
theorem dX7_nextStiff_98 : decode cX7_nextStiff 98 = .ok (.goto (-80), 3) := by decide +kernel
theorem dX7_nextStiff_101 : decode cX7_nextStiff 101 = .ok (.aload_n 0, 1) := by decide +kernel
theorem dX7_nextStiff_102 : decode cX7_nextStiff 102 = .ok (.iload_n 3, 1) := by decide +kernel
theorem dX7_nextStiff_103 : decode cX7_nextStiff 103 = .ok (.invokevirtual 168, 3) := by decide +kernel
theorem dX7_nextStiff_106 : decode cX7_nextStiff 106 = .ok (.iload_n 1, 1) := by decide +kernel
theorem dX7_nextStiff_107 : decode cX7_nextStiff 107 = .ok (.if_icmp .ne 11, 3) := by decide +kernel
theorem dX7_nextStiff_110 : decode cX7_nextStiff 110 = .ok (.iload 4, 2) := by decide +kernel
theorem dX7_nextStiff_112 : decode cX7_nextStiff 112 = .ok (.iload_n 2, 1) := by decide +kernel
theorem dX7_nextStiff_113 : decode cX7_nextStiff 113 = .ok (.if_icmp .ne 5, 3) := by decide +kernel
theorem dX7_nextStiff_116 : decode cX7_nextStiff 116 = .ok (.iload_n 3, 1) := by decide +kernel
theorem dX7_nextStiff_117 : decode cX7_nextStiff 117 = .ok (.ireturn, 1) := by decide +kernel
theorem dX7_nextStiff_118 : decode cX7_nextStiff 118 = .ok (.iinc 3 1, 3) := by decide +kernel
theorem dX7_nextStiff_121 : decode cX7_nextStiff 121 = .ok (.goto (-119), 3) := by decide +kernel
theorem dX7_nextStiff_124 : decode cX7_nextStiff 124 = .ok (.iconst 0, 1) := by decide +kernel
theorem dX7_nextStiff_125 : decode cX7_nextStiff 125 = .ok (.ireturn, 1) := by decide +kernel
theorem dX7_share_0 : decode cX7_share 0 = .ok (.aload_n 0, 1) := by decide +kernel
theorem dX7_share_1 : decode cX7_share 1 = .ok (.iload_n 1, 1) := by decide +kernel
theorem dX7_share_2 : decode cX7_share 2 = .ok (.invokevirtual 246, 3) := by decide +kernel
theorem dX7_share_5 : decode cX7_share 5 = .ok (.ifCond .eq 27, 3) := by decide +kernel
theorem dX7_share_8 : decode cX7_share 8 = .ok (.iload_n 2, 1) := by decide +kernel
theorem dX7_share_9 : decode cX7_share 9 = .ok (.i2l, 1) := by decide +kernel
theorem dX7_share_10 : decode cX7_share 10 = .ok (.lconst 0, 1) := by decide +kernel
theorem dX7_share_11 : decode cX7_share 11 = .ok (.lconst 1, 1) := by decide +kernel
theorem dX7_share_12 : decode cX7_share 12 = .ok (.invokestatic 66, 3) := by decide +kernel
theorem dX7_share_15 : decode cX7_share 15 = .ok (.ifCond .eq 17, 3) := by decide +kernel
theorem dX7_share_18 : decode cX7_share 18 = .ok (.aload_n 0, 1) := by decide +kernel
theorem dX7_share_19 : decode cX7_share 19 = .ok (.getfield 7, 3) := by decide +kernel
theorem dX7_share_22 : decode cX7_share 22 = .ok (.aload_n 0, 1) := by decide +kernel
theorem dX7_share_23 : decode cX7_share 23 = .ok (.iload_n 1, 1) := by decide +kernel
theorem dX7_share_24 : decode cX7_share 24 = .ok (.invokevirtual 168, 3) := by decide +kernel
theorem dX7_share_27 : decode cX7_share 27 = .ok (.iaload, 1) := by decide +kernel
theorem dX7_share_28 : decode cX7_share 28 = .ok (.iconst 1, 1) := by decide +kernel
theorem dX7_share_29 : decode cX7_share 29 = .ok (.if_icmp .ne 6, 3) := by decide +kernel
theorem dX7_share_32 : decode cX7_share 32 = .ok (.ldc 204, 2) := by decide +kernel
theorem dX7_share_34 : decode cX7_share 34 = .ok (.ireturn, 1) := by decide +kernel
theorem dX7_share_35 : decode cX7_share 35 = .ok (.aload_n 0, 1) := by decide +kernel
theorem dX7_share_36 : decode cX7_share 36 = .ok (.aload_n 0, 1) := by decide +kernel
theorem dX7_share_37 : decode cX7_share 37 = .ok (.iload_n 1, 1) := by decide +kernel
theorem dX7_share_38 : decode cX7_share 38 = .ok (.invokevirtual 168, 3) := by decide +kernel
theorem dX7_share_41 : decode cX7_share 41 = .ok (.invokevirtual 257, 3) := by decide +kernel
theorem dX7_share_44 : decode cX7_share 44 = .ok (.iload_n 2, 1) := by decide +kernel
theorem dX7_share_45 : decode cX7_share 45 = .ok (.ifCond .ne 12, 3) := by decide +kernel
theorem dX7_share_48 : decode cX7_share 48 = .ok (.aload_n 0, 1) := by decide +kernel
theorem dX7_share_49 : decode cX7_share 49 = .ok (.getfield 48, 3) := by decide +kernel
theorem dX7_share_52 : decode cX7_share 52 = .ok (.iload_n 1, 1) := by decide +kernel
theorem dX7_share_53 : decode cX7_share 53 = .ok (.iaload, 1) := by decide +kernel
theorem dX7_share_54 : decode cX7_share 54 = .ok (.goto 11, 3) := by decide +kernel
theorem dX7_share_57 : decode cX7_share 57 = .ok (.aload_n 0, 1) := by decide +kernel
theorem dX7_share_58 : decode cX7_share 58 = .ok (.getfield 48, 3) := by decide +kernel
theorem dX7_share_61 : decode cX7_share 61 = .ok (.iload_n 1, 1) := by decide +kernel
theorem dX7_share_62 : decode cX7_share 62 = .ok (.iaload, 1) := by decide +kernel
theorem dX7_share_63 : decode cX7_share 63 = .ok (.iconst 2, 1) := by decide +kernel
theorem dX7_share_64 : decode cX7_share 64 = .ok (.idiv, 1) := by decide +kernel
theorem dX7_share_65 : decode cX7_share 65 = .ok (.ireturn, 1) := by decide +kernel
theorem dX7_rank_0 : decode cX7_rank 0 = .ok (.iload_n 1, 1) := by decide +kernel
theorem dX7_rank_1 : decode cX7_rank 1 = .ok (.ifCond .ge 5, 3) := by decide +kernel
theorem dX7_rank_4 : decode cX7_rank 4 = .ok (.iconst (-1), 1) := by decide +kernel
theorem dX7_rank_5 : decode cX7_rank 5 = .ok (.ireturn, 1) := by decide +kernel
theorem dX7_rank_6 : decode cX7_rank 6 = .ok (.iconst 0, 1) := by decide +kernel
theorem dX7_rank_7 : decode cX7_rank 7 = .ok (.istore_n 2, 1) := by decide +kernel
theorem dX7_rank_8 : decode cX7_rank 8 = .ok (.iload_n 2, 1) := by decide +kernel
theorem dX7_rank_9 : decode cX7_rank 9 = .ok (.aload_n 0, 1) := by decide +kernel
theorem dX7_rank_10 : decode cX7_rank 10 = .ok (.invokevirtual 183, 3) := by decide +kernel
theorem dX7_rank_13 : decode cX7_rank 13 = .ok (.if_icmp .ge 102, 3) := by decide +kernel
theorem dX7_rank_16 : decode cX7_rank 16 = .ok (.iconst 0, 1) := by decide +kernel
theorem dX7_rank_17 : decode cX7_rank 17 = .ok (.istore_n 3, 1) := by decide +kernel
theorem dX7_rank_18 : decode cX7_rank 18 = .ok (.iconst 0, 1) := by decide +kernel
theorem dX7_rank_19 : decode cX7_rank 19 = .ok (.istore 4, 2) := by decide +kernel
theorem dX7_rank_21 : decode cX7_rank 21 = .ok (.iload 4, 2) := by decide +kernel
theorem dX7_rank_23 : decode cX7_rank 23 = .ok (.aload_n 0, 1) := by decide +kernel
theorem dX7_rank_24 : decode cX7_rank 24 = .ok (.invokevirtual 183, 3) := by decide +kernel
theorem dX7_rank_27 : decode cX7_rank 27 = .ok (.if_icmp .ge 67, 3) := by decide +kernel
theorem dX7_rank_30 : decode cX7_rank 30 = .ok (.aload_n 0, 1) := by decide +kernel
theorem dX7_rank_31 : decode cX7_rank 31 = .ok (.iload 4, 2) := by decide +kernel
theorem dX7_rank_33 : decode cX7_rank 33 = .ok (.invokevirtual 180, 3) := by decide +kernel
theorem dX7_rank_36 : decode cX7_rank 36 = .ok (.invokestatic 189, 3) := by decide +kernel
theorem dX7_rank_39 : decode cX7_rank 39 = .ok (.istore 5, 2) := by decide +kernel
theorem dX7_rank_41 : decode cX7_rank 41 = .ok (.aload_n 0, 1) := by decide +kernel
theorem dX7_rank_42 : decode cX7_rank 42 = .ok (.iload_n 2, 1) := by decide +kernel
theorem dX7_rank_43 : decode cX7_rank 43 = .ok (.invokevirtual 180, 3) := by decide +kernel
theorem dX7_rank_46 : decode cX7_rank 46 = .ok (.invokestatic 189, 3) := by decide +kernel
theorem dX7_rank_49 : decode cX7_rank 49 = .ok (.istore 6, 2) := by decide +kernel
theorem dX7_rank_51 : decode cX7_rank 51 = .ok (.iload_n 3, 1) := by decide +kernel
theorem dX7_rank_52 : decode cX7_rank 52 = .ok (.aload_n 0, 1) := by decide +kernel
theorem dX7_rank_53 : decode cX7_rank 53 = .ok (.iload 4, 2) := by decide +kernel
theorem dX7_rank_55 : decode cX7_rank 55 = .ok (.invokevirtual 186, 3) := by decide +kernel
theorem dX7_rank_58 : decode cX7_rank 58 = .ok (.ifCond .eq 27, 3) := by decide +kernel
theorem dX7_rank_61 : decode cX7_rank 61 = .ok (.iload 5, 2) := by decide +kernel
theorem dX7_rank_63 : decode cX7_rank 63 = .ok (.iload 6, 2) := by decide +kernel
theorem dX7_rank_65 : decode cX7_rank 65 = .ok (.if_icmp .gt 16, 3) := by decide +kernel
theorem dX7_rank_68 : decode cX7_rank 68 = .ok (.iload 5, 2) := by decide +kernel
theorem dX7_rank_70 : decode cX7_rank 70 = .ok (.iload 6, 2) := by decide +kernel
theorem dX7_rank_72 : decode cX7_rank 72 = .ok (.if_icmp .ne 13, 3) := by decide +kernel
theorem dX7_rank_75 : decode cX7_rank 75 = .ok (.iload 4, 2) := by decide +kernel
theorem dX7_rank_77 : decode cX7_rank 77 = .ok (.iload_n 2, 1) := by decide +kernel
theorem dX7_rank_78 : decode cX7_rank 78 = .ok (.if_icmp .ge 7, 3) := by decide +kernel
theorem dX7_rank_81 : decode cX7_rank 81 = .ok (.iconst 1, 1) := by decide +kernel
theorem dX7_rank_82 : decode cX7_rank 82 = .ok (.goto 4, 3) := by decide +kernel
theorem dX7_rank_85 : decode cX7_rank 85 = .ok (.iconst 0, 1) := by decide +kernel
theorem dX7_rank_86 : decode cX7_rank 86 = .ok (.iadd, 1) := by decide +kernel
theorem dX7_rank_87 : decode cX7_rank 87 = .ok (.istore_n 3, 1) := by decide +kernel
theorem dX7_rank_88 : decode cX7_rank 88 = .ok (.iinc 4 1, 3) := by decide +kernel
theorem dX7_rank_91 : decode cX7_rank 91 = .ok (.goto (-70), 3) := by decide +kernel
theorem dX7_rank_94 : decode cX7_rank 94 = .ok (.aload_n 0, 1) := by decide +kernel
theorem dX7_rank_95 : decode cX7_rank 95 = .ok (.iload_n 2, 1) := by decide +kernel
theorem dX7_rank_96 : decode cX7_rank 96 = .ok (.invokevirtual 186, 3) := by decide +kernel
theorem dX7_rank_99 : decode cX7_rank 99 = .ok (.ifCond .eq 10, 3) := by decide +kernel
theorem dX7_rank_102 : decode cX7_rank 102 = .ok (.iload_n 3, 1) := by decide +kernel
theorem dX7_rank_103 : decode cX7_rank 103 = .ok (.iload_n 1, 1) := by decide +kernel
theorem dX7_rank_104 : decode cX7_rank 104 = .ok (.if_icmp .ne 5, 3) := by decide +kernel
theorem dX7_rank_107 : decode cX7_rank 107 = .ok (.iload_n 2, 1) := by decide +kernel
theorem dX7_rank_108 : decode cX7_rank 108 = .ok (.ireturn, 1) := by decide +kernel
theorem dX7_rank_109 : decode cX7_rank 109 = .ok (.iinc 2 1, 3) := by decide +kernel
theorem dX7_rank_112 : decode cX7_rank 112 = .ok (.goto (-104), 3) := by decide +kernel
theorem dX7_rank_115 : decode cX7_rank 115 = .ok (.bipush (-4), 2) := by decide +kernel
theorem dX7_rank_117 : decode cX7_rank 117 = .ok (.ireturn, 1) := by decide +kernel
theorem dX7_nextOf_0 : decode cX7_nextOf 0 = .ok (.iload_n 1, 1) := by decide +kernel
theorem dX7_nextOf_1 : decode cX7_nextOf 1 = .ok (.ifCond .ne 9, 3) := by decide +kernel
theorem dX7_nextOf_4 : decode cX7_nextOf 4 = .ok (.aload_n 0, 1) := by decide +kernel
theorem dX7_nextOf_5 : decode cX7_nextOf 5 = .ok (.iconst 0, 1) := by decide +kernel
theorem dX7_nextOf_6 : decode cX7_nextOf 6 = .ok (.invokevirtual 260, 3) := by decide +kernel
theorem dX7_nextOf_9 : decode cX7_nextOf 9 = .ok (.ireturn, 1) := by decide +kernel
theorem dX7_nextOf_10 : decode cX7_nextOf 10 = .ok (.iconst 1, 1) := by decide +kernel
theorem dX7_nextOf_11 : decode cX7_nextOf 11 = .ok (.istore_n 2, 1) := by decide +kernel
theorem dX7_nextOf_12 : decode cX7_nextOf 12 = .ok (.iload_n 2, 1) := by decide +kernel
theorem dX7_nextOf_13 : decode cX7_nextOf 13 = .ok (.aload_n 0, 1) := by decide +kernel
theorem dX7_nextOf_14 : decode cX7_nextOf 14 = .ok (.invokevirtual 183, 3) := by decide +kernel
theorem dX7_nextOf_17 : decode cX7_nextOf 17 = .ok (.if_icmp .gt 44, 3) := by decide +kernel
theorem dX7_nextOf_20 : decode cX7_nextOf 20 = .ok (.aload_n 0, 1) := by decide +kernel
theorem dX7_nextOf_21 : decode cX7_nextOf 21 = .ok (.getfield 28, 3) := by decide +kernel
theorem dX7_nextOf_24 : decode cX7_nextOf 24 = .ok (.bipush (-4), 2) := by decide +kernel
theorem dX7_nextOf_26 : decode cX7_nextOf 26 = .ok (.if_icmp .ne 7, 3) := by decide +kernel
theorem dX7_nextOf_29 : decode cX7_nextOf 29 = .ok (.iconst (-1), 1) := by decide +kernel
theorem dX7_nextOf_30 : decode cX7_nextOf 30 = .ok (.goto 7, 3) := by decide +kernel
theorem dX7_nextOf_33 : decode cX7_nextOf 33 = .ok (.aload_n 0, 1) := by decide +kernel
theorem dX7_nextOf_34 : decode cX7_nextOf 34 = .ok (.getfield 28, 3) := by decide +kernel
theorem dX7_nextOf_37 : decode cX7_nextOf 37 = .ok (.iload_n 2, 1) := by decide +kernel
theorem dX7_nextOf_38 : decode cX7_nextOf 38 = .ok (.iadd, 1) := by decide +kernel
theorem dX7_nextOf_39 : decode cX7_nextOf 39 = .ok (.aload_n 0, 1) := by decide +kernel
theorem dX7_nextOf_40 : decode cX7_nextOf 40 = .ok (.invokevirtual 183, 3) := by decide +kernel
theorem dX7_nextOf_43 : decode cX7_nextOf 43 = .ok (.irem, 1) := by decide +kernel
theorem dX7_nextOf_44 : decode cX7_nextOf 44 = .ok (.istore_n 3, 1) := by decide +kernel
theorem dX7_nextOf_45 : decode cX7_nextOf 45 = .ok (.aload_n 0, 1) := by decide +kernel
theorem dX7_nextOf_46 : decode cX7_nextOf 46 = .ok (.iload_n 3, 1) := by decide +kernel
theorem dX7_nextOf_47 : decode cX7_nextOf 47 = .ok (.invokevirtual 186, 3) := by decide +kernel
theorem dX7_nextOf_50 : decode cX7_nextOf 50 = .ok (.ifCond .eq 5, 3) := by decide +kernel
theorem dX7_nextOf_53 : decode cX7_nextOf 53 = .ok (.iload_n 3, 1) := by decide +kernel
theorem dX7_nextOf_54 : decode cX7_nextOf 54 = .ok (.ireturn, 1) := by decide +kernel
theorem dX7_nextOf_55 : decode cX7_nextOf 55 = .ok (.iinc 2 1, 3) := by decide +kernel
theorem dX7_nextOf_58 : decode cX7_nextOf 58 = .ok (.goto (-46), 3) := by decide +kernel
theorem dX7_nextOf_61 : decode cX7_nextOf 61 = .ok (.bipush (-4), 2) := by decide +kernel
theorem dX7_nextOf_63 : decode cX7_nextOf 63 = .ok (.ireturn, 1) := by decide +kernel
theorem dX7_next_0 : decode cX7_next 0 = .ok (.iload_n 1, 1) := by decide +kernel
theorem dX7_next_1 : decode cX7_next 1 = .ok (.i2l, 1) := by decide +kernel
theorem dX7_next_2 : decode cX7_next 2 = .ok (.lconst 0, 1) := by decide +kernel
theorem dX7_next_3 : decode cX7_next 3 = .ok (.lconst 1, 1) := by decide +kernel
theorem dX7_next_4 : decode cX7_next 4 = .ok (.invokestatic 66, 3) := by decide +kernel
theorem dX7_next_7 : decode cX7_next 7 = .ok (.ifCond .eq 11, 3) := by decide +kernel
theorem dX7_next_10 : decode cX7_next 10 = .ok (.aload_n 0, 1) := by decide +kernel
theorem dX7_next_11 : decode cX7_next 11 = .ok (.iload_n 1, 1) := by decide +kernel
theorem dX7_next_12 : decode cX7_next 12 = .ok (.invokevirtual 263, 3) := by decide +kernel
theorem dX7_next_15 : decode cX7_next 15 = .ok (.goto 4, 3) := by decide +kernel
theorem dX7_next_18 : decode cX7_next 18 = .ok (.iconst (-1), 1) := by decide +kernel
theorem dX7_next_19 : decode cX7_next 19 = .ok (.ireturn, 1) := by decide +kernel
theorem dX7_doesStep_0 : decode cX7_doesStep 0 = .ok (.aload_n 0, 1) := by decide +kernel
theorem dX7_doesStep_1 : decode cX7_doesStep 1 = .ok (.iload_n 1, 1) := by decide +kernel
theorem dX7_doesStep_2 : decode cX7_doesStep 2 = .ok (.invokevirtual 257, 3) := by decide +kernel
theorem dX7_doesStep_5 : decode cX7_doesStep 5 = .ok (.iconst 0, 1) := by decide +kernel
theorem dX7_doesStep_6 : decode cX7_doesStep 6 = .ok (.istore_n 2, 1) := by decide +kernel
theorem dX7_doesStep_7 : decode cX7_doesStep 7 = .ok (.iload_n 2, 1) := by decide +kernel
theorem dX7_doesStep_8 : decode cX7_doesStep 8 = .ok (.iconst 2, 1) := by decide +kernel
theorem dX7_doesStep_9 : decode cX7_doesStep 9 = .ok (.aload_n 0, 1) := by decide +kernel
theorem dX7_doesStep_10 : decode cX7_doesStep 10 = .ok (.invokevirtual 162, 3) := by decide +kernel
theorem dX7_doesStep_13 : decode cX7_doesStep 13 = .ok (.imul, 1) := by decide +kernel
theorem dX7_doesStep_14 : decode cX7_doesStep 14 = .ok (.if_icmp .ge 53, 3) := by decide +kernel
theorem dX7_doesStep_17 : decode cX7_doesStep 17 = .ok (.aload_n 0, 1) := by decide +kernel
theorem dX7_doesStep_18 : decode cX7_doesStep 18 = .ok (.iload_n 2, 1) := by decide +kernel
theorem dX7_doesStep_19 : decode cX7_doesStep 19 = .ok (.invokevirtual 168, 3) := by decide +kernel
theorem dX7_doesStep_22 : decode cX7_doesStep 22 = .ok (.iload_n 1, 1) := by decide +kernel
theorem dX7_doesStep_23 : decode cX7_doesStep 23 = .ok (.if_icmp .ne 38, 3) := by decide +kernel
theorem dX7_doesStep_26 : decode cX7_doesStep 26 = .ok (.aload_n 0, 1) := by decide +kernel
theorem dX7_doesStep_27 : decode cX7_doesStep 27 = .ok (.getfield 22, 3) := by decide +kernel
theorem dX7_doesStep_30 : decode cX7_doesStep 30 = .ok (.iload_n 2, 1) := by decide +kernel
theorem dX7_doesStep_31 : decode cX7_doesStep 31 = .ok (.dup2, 1) := by decide +kernel
theorem dX7_doesStep_32 : decode cX7_doesStep 32 = .ok (.iaload, 1) := by decide +kernel
theorem dX7_doesStep_33 : decode cX7_doesStep 33 = .ok (.aload_n 0, 1) := by decide +kernel
theorem dX7_doesStep_34 : decode cX7_doesStep 34 = .ok (.getfield 48, 3) := by decide +kernel
theorem dX7_doesStep_37 : decode cX7_doesStep 37 = .ok (.iload_n 2, 1) := by decide +kernel
theorem dX7_doesStep_38 : decode cX7_doesStep 38 = .ok (.iaload, 1) := by decide +kernel
theorem dX7_doesStep_39 : decode cX7_doesStep 39 = .ok (.iadd, 1) := by decide +kernel
theorem dX7_doesStep_40 : decode cX7_doesStep 40 = .ok (.iastore, 1) := by decide +kernel
theorem dX7_doesStep_41 : decode cX7_doesStep 41 = .ok (.aload_n 0, 1) := by decide +kernel
theorem dX7_doesStep_42 : decode cX7_doesStep 42 = .ok (.getfield 22, 3) := by decide +kernel
theorem dX7_doesStep_45 : decode cX7_doesStep 45 = .ok (.iload_n 2, 1) := by decide +kernel
theorem dX7_doesStep_46 : decode cX7_doesStep 46 = .ok (.invokestatic 219, 3) := by decide +kernel
theorem dX7_doesStep_49 : decode cX7_doesStep 49 = .ok (.dup2, 1) := by decide +kernel
theorem dX7_doesStep_50 : decode cX7_doesStep 50 = .ok (.iaload, 1) := by decide +kernel
theorem dX7_doesStep_51 : decode cX7_doesStep 51 = .ok (.aload_n 0, 1) := by decide +kernel
theorem dX7_doesStep_52 : decode cX7_doesStep 52 = .ok (.getfield 48, 3) := by decide +kernel
theorem dX7_doesStep_55 : decode cX7_doesStep 55 = .ok (.iload_n 2, 1) := by decide +kernel
theorem dX7_doesStep_56 : decode cX7_doesStep 56 = .ok (.iaload, 1) := by decide +kernel
theorem dX7_doesStep_57 : decode cX7_doesStep 57 = .ok (.iconst 2, 1) := by decide +kernel
theorem dX7_doesStep_58 : decode cX7_doesStep 58 = .ok (.idiv, 1) := by decide +kernel
theorem dX7_doesStep_59 : decode cX7_doesStep 59 = .ok (.iadd, 1) := by decide +kernel
theorem dX7_doesStep_60 : decode cX7_doesStep 60 = .ok (.iastore, 1) := by decide +kernel
theorem dX7_doesStep_61 : decode cX7_doesStep 61 = .ok (.iinc 2 1, 3) := by decide +kernel
theorem dX7_doesStep_64 : decode cX7_doesStep 64 = .ok (.goto (-57), 3) := by decide +kernel
theorem dX7_doesStep_67 : decode cX7_doesStep 67 = .ok (.aload_n 0, 1) := by decide +kernel
theorem dX7_doesStep_68 : decode cX7_doesStep 68 = .ok (.dup, 1) := by decide +kernel
theorem dX7_doesStep_69 : decode cX7_doesStep 69 = .ok (.getfield 159, 3) := by decide +kernel
theorem dX7_doesStep_72 : decode cX7_doesStep 72 = .ok (.iconst 1, 1) := by decide +kernel
theorem dX7_doesStep_73 : decode cX7_doesStep 73 = .ok (.iadd, 1) := by decide +kernel
theorem dX7_doesStep_74 : decode cX7_doesStep 74 = .ok (.putfield 159, 3) := by decide +kernel
theorem dX7_doesStep_77 : decode cX7_doesStep 77 = .ok (.aload_n 0, 1) := by decide +kernel
theorem dX7_doesStep_78 : decode cX7_doesStep 78 = .ok (.getfield 25, 3) := by decide +kernel
theorem dX7_doesStep_81 : decode cX7_doesStep 81 = .ok (.iload_n 1, 1) := by decide +kernel
theorem dX7_doesStep_82 : decode cX7_doesStep 82 = .ok (.dup2, 1) := by decide +kernel
theorem dX7_doesStep_83 : decode cX7_doesStep 83 = .ok (.iaload, 1) := by decide +kernel
theorem dX7_doesStep_84 : decode cX7_doesStep 84 = .ok (.iconst 1, 1) := by decide +kernel
theorem dX7_doesStep_85 : decode cX7_doesStep 85 = .ok (.iadd, 1) := by decide +kernel
theorem dX7_doesStep_86 : decode cX7_doesStep 86 = .ok (.iastore, 1) := by decide +kernel
theorem dX7_doesStep_87 : decode cX7_doesStep 87 = .ok (.aload_n 0, 1) := by decide +kernel
theorem dX7_doesStep_88 : decode cX7_doesStep 88 = .ok (.iload_n 1, 1) := by decide +kernel
theorem dX7_doesStep_89 : decode cX7_doesStep 89 = .ok (.putfield 28, 3) := by decide +kernel
theorem dX7_doesStep_92 : decode cX7_doesStep 92 = .ok (.return_, 1) := by decide +kernel
theorem dX7_step_0 : decode cX7_step 0 = .ok (.aload_n 0, 1) := by decide +kernel
theorem dX7_step_1 : decode cX7_step 1 = .ok (.iload_n 1, 1) := by decide +kernel
theorem dX7_step_2 : decode cX7_step 2 = .ok (.invokevirtual 198, 3) := by decide +kernel
theorem dX7_step_5 : decode cX7_step 5 = .ok (.ifCond .ne 5, 3) := by decide +kernel
theorem dX7_step_8 : decode cX7_step 8 = .ok (.iconst (-1), 1) := by decide +kernel
theorem dX7_step_9 : decode cX7_step 9 = .ok (.ireturn, 1) := by decide +kernel
theorem dX7_step_10 : decode cX7_step 10 = .ok (.aload_n 0, 1) := by decide +kernel
theorem dX7_step_11 : decode cX7_step 11 = .ok (.iload_n 1, 1) := by decide +kernel
theorem dX7_step_12 : decode cX7_step 12 = .ok (.invokevirtual 177, 3) := by decide +kernel
theorem dX7_step_15 : decode cX7_step 15 = .ok (.ifCond .ne 6, 3) := by decide +kernel
theorem dX7_step_18 : decode cX7_step 18 = .ok (.bipush (-2), 2) := by decide +kernel
theorem dX7_step_20 : decode cX7_step 20 = .ok (.ireturn, 1) := by decide +kernel
theorem dX7_step_21 : decode cX7_step 21 = .ok (.aload_n 0, 1) := by decide +kernel
theorem dX7_step_22 : decode cX7_step 22 = .ok (.iload_n 1, 1) := by decide +kernel
theorem dX7_step_23 : decode cX7_step 23 = .ok (.invokevirtual 266, 3) := by decide +kernel
theorem dX7_step_26 : decode cX7_step 26 = .ok (.aload_n 0, 1) := by decide +kernel
theorem dX7_step_27 : decode cX7_step 27 = .ok (.getfield 159, 3) := by decide +kernel
theorem dX7_step_30 : decode cX7_step 30 = .ok (.ireturn, 1) := by decide +kernel
theorem dX7_sweep_0 : decode cX7_sweep 0 = .ok (.iload_n 1, 1) := by decide +kernel
theorem dX7_sweep_1 : decode cX7_sweep 1 = .ok (.i2l, 1) := by decide +kernel
theorem dX7_sweep_2 : decode cX7_sweep 2 = .ok (.lconst 0, 1) := by decide +kernel
theorem dX7_sweep_3 : decode cX7_sweep 3 = .ok (.lconst 1, 1) := by decide +kernel
theorem dX7_sweep_4 : decode cX7_sweep 4 = .ok (.invokestatic 66, 3) := by decide +kernel
theorem dX7_sweep_7 : decode cX7_sweep 7 = .ok (.ifCond .eq 15, 3) := by decide +kernel
theorem dX7_sweep_10 : decode cX7_sweep 10 = .ok (.iload_n 2, 1) := by decide +kernel
theorem dX7_sweep_11 : decode cX7_sweep 11 = .ok (.i2l, 1) := by decide +kernel
theorem dX7_sweep_12 : decode cX7_sweep 12 = .ok (.lconst 1, 1) := by decide +kernel
theorem dX7_sweep_13 : decode cX7_sweep 13 = .ok (.ldc2_w 269, 3) := by decide +kernel
theorem dX7_sweep_16 : decode cX7_sweep 16 = .ok (.invokestatic 66, 3) := by decide +kernel
theorem dX7_sweep_19 : decode cX7_sweep 19 = .ok (.ifCond .ne 5, 3) := by decide +kernel
theorem dX7_sweep_22 : decode cX7_sweep 22 = .ok (.iconst (-1), 1) := by decide +kernel
theorem dX7_sweep_23 : decode cX7_sweep 23 = .ok (.ireturn, 1) := by decide +kernel
theorem dX7_sweep_24 : decode cX7_sweep 24 = .ok (.iconst 0, 1) := by decide +kernel
theorem dX7_sweep_25 : decode cX7_sweep 25 = .ok (.istore_n 3, 1) := by decide +kernel
theorem dX7_sweep_26 : decode cX7_sweep 26 = .ok (.aload_n 0, 1) := by decide +kernel
theorem dX7_sweep_27 : decode cX7_sweep 27 = .ok (.iload_n 1, 1) := by decide +kernel
theorem dX7_sweep_28 : decode cX7_sweep 28 = .ok (.invokevirtual 263, 3) := by decide +kernel
theorem dX7_sweep_31 : decode cX7_sweep 31 = .ok (.istore 4, 2) := by decide +kernel
theorem dX7_sweep_33 : decode cX7_sweep 33 = .ok (.iload_n 3, 1) := by decide +kernel
theorem dX7_sweep_34 : decode cX7_sweep 34 = .ok (.iload_n 2, 1) := by decide +kernel
theorem dX7_sweep_35 : decode cX7_sweep 35 = .ok (.if_icmp .ge 29, 3) := by decide +kernel
theorem dX7_sweep_38 : decode cX7_sweep 38 = .ok (.iload 4, 2) := by decide +kernel
theorem dX7_sweep_40 : decode cX7_sweep 40 = .ok (.bipush (-4), 2) := by decide +kernel
theorem dX7_sweep_42 : decode cX7_sweep 42 = .ok (.if_icmp .eq 22, 3) := by decide +kernel
theorem dX7_sweep_45 : decode cX7_sweep 45 = .ok (.aload_n 0, 1) := by decide +kernel
theorem dX7_sweep_46 : decode cX7_sweep 46 = .ok (.iload 4, 2) := by decide +kernel
theorem dX7_sweep_48 : decode cX7_sweep 48 = .ok (.invokevirtual 266, 3) := by decide +kernel
theorem dX7_sweep_51 : decode cX7_sweep 51 = .ok (.iinc 3 1, 3) := by decide +kernel
theorem dX7_sweep_54 : decode cX7_sweep 54 = .ok (.aload_n 0, 1) := by decide +kernel
theorem dX7_sweep_55 : decode cX7_sweep 55 = .ok (.iload_n 1, 1) := by decide +kernel
theorem dX7_sweep_56 : decode cX7_sweep 56 = .ok (.invokevirtual 263, 3) := by decide +kernel
theorem dX7_sweep_59 : decode cX7_sweep 59 = .ok (.istore 4, 2) := by decide +kernel
theorem dX7_sweep_61 : decode cX7_sweep 61 = .ok (.goto (-28), 3) := by decide +kernel
theorem dX7_sweep_64 : decode cX7_sweep 64 = .ok (.iload_n 3, 1) := by decide +kernel
theorem dX7_sweep_65 : decode cX7_sweep 65 = .ok (.ireturn, 1) := by decide +kernel
theorem dX7_begin_0 : decode cX7_begin 0 = .ok (.aload_n 0, 1) := by decide +kernel
theorem dX7_begin_1 : decode cX7_begin 1 = .ok (.invokevirtual 149, 3) := by decide +kernel
theorem dX7_begin_4 : decode cX7_begin 4 = .ok (.ireturn, 1) := by decide +kernel
theorem dX7_isCouple_0 : decode cX7_isCouple 0 = .ok (.aload_n 0, 1) := by decide +kernel
theorem dX7_isCouple_1 : decode cX7_isCouple 1 = .ok (.iload_n 1, 1) := by decide +kernel
theorem dX7_isCouple_2 : decode cX7_isCouple 2 = .ok (.invokevirtual 198, 3) := by decide +kernel
theorem dX7_isCouple_5 : decode cX7_isCouple 5 = .ok (.ifCond .eq 21, 3) := by decide +kernel
theorem dX7_isCouple_8 : decode cX7_isCouple 8 = .ok (.iload_n 2, 1) := by decide +kernel
theorem dX7_isCouple_9 : decode cX7_isCouple 9 = .ok (.i2l, 1) := by decide +kernel
theorem dX7_isCouple_10 : decode cX7_isCouple 10 = .ok (.ldc2_w 271, 3) := by decide +kernel
theorem dX7_isCouple_13 : decode cX7_isCouple 13 = .ok (.ldc2_w 273, 3) := by decide +kernel
theorem dX7_isCouple_16 : decode cX7_isCouple 16 = .ok (.invokestatic 66, 3) := by decide +kernel
theorem dX7_isCouple_19 : decode cX7_isCouple 19 = .ok (.ifCond .eq 7, 3) := by decide +kernel
theorem dX7_isCouple_22 : decode cX7_isCouple 22 = .ok (.iconst 1, 1) := by decide +kernel
theorem dX7_isCouple_23 : decode cX7_isCouple 23 = .ok (.goto 4, 3) := by decide +kernel
theorem dX7_isCouple_26 : decode cX7_isCouple 26 = .ok (.iconst 0, 1) := by decide +kernel
theorem dX7_isCouple_27 : decode cX7_isCouple 27 = .ok (.ireturn, 1) := by decide +kernel
theorem dX7_couple_0 : decode cX7_couple 0 = .ok (.aload_n 0, 1) := by decide +kernel
theorem dX7_couple_1 : decode cX7_couple 1 = .ok (.iload_n 1, 1) := by decide +kernel
theorem dX7_couple_2 : decode cX7_couple 2 = .ok (.iload_n 2, 1) := by decide +kernel
theorem dX7_couple_3 : decode cX7_couple 3 = .ok (.invokevirtual 275, 3) := by decide +kernel
theorem dX7_couple_6 : decode cX7_couple 6 = .ok (.ifCond .ne 5, 3) := by decide +kernel
theorem dX7_couple_9 : decode cX7_couple 9 = .ok (.iconst (-1), 1) := by decide +kernel
theorem dX7_couple_10 : decode cX7_couple 10 = .ok (.ireturn, 1) := by decide +kernel
theorem dX7_couple_11 : decode cX7_couple 11 = .ok (.aload_n 0, 1) := by decide +kernel
theorem dX7_couple_12 : decode cX7_couple 12 = .ok (.getfield 7, 3) := by decide +kernel
theorem dX7_couple_15 : decode cX7_couple 15 = .ok (.bipush 6, 2) := by decide +kernel
theorem dX7_couple_17 : decode cX7_couple 17 = .ok (.iload_n 1, 1) := by decide +kernel
theorem dX7_couple_18 : decode cX7_couple 18 = .ok (.iadd, 1) := by decide +kernel
theorem dX7_couple_19 : decode cX7_couple 19 = .ok (.iload_n 2, 1) := by decide +kernel
theorem dX7_couple_20 : decode cX7_couple 20 = .ok (.iastore, 1) := by decide +kernel
theorem dX7_couple_21 : decode cX7_couple 21 = .ok (.aload_n 0, 1) := by decide +kernel
theorem dX7_couple_22 : decode cX7_couple 22 = .ok (.invokevirtual 149, 3) := by decide +kernel
theorem dX7_couple_25 : decode cX7_couple 25 = .ok (.pop, 1) := by decide +kernel
theorem dX7_couple_26 : decode cX7_couple 26 = .ok (.iconst 1, 1) := by decide +kernel
theorem dX7_couple_27 : decode cX7_couple 27 = .ok (.ireturn, 1) := by decide +kernel
theorem dX7_hold_0 : decode cX7_hold 0 = .ok (.aload_n 0, 1) := by decide +kernel
theorem dX7_hold_1 : decode cX7_hold 1 = .ok (.iload_n 1, 1) := by decide +kernel
theorem dX7_hold_2 : decode cX7_hold 2 = .ok (.invokevirtual 198, 3) := by decide +kernel
theorem dX7_hold_5 : decode cX7_hold 5 = .ok (.ifCond .eq 13, 3) := by decide +kernel
theorem dX7_hold_8 : decode cX7_hold 8 = .ok (.iload_n 2, 1) := by decide +kernel
theorem dX7_hold_9 : decode cX7_hold 9 = .ok (.i2l, 1) := by decide +kernel
theorem dX7_hold_10 : decode cX7_hold 10 = .ok (.lconst 0, 1) := by decide +kernel
theorem dX7_hold_11 : decode cX7_hold 11 = .ok (.lconst 1, 1) := by decide +kernel
theorem dX7_hold_12 : decode cX7_hold 12 = .ok (.invokestatic 66, 3) := by decide +kernel
theorem dX7_hold_15 : decode cX7_hold 15 = .ok (.ifCond .ne 5, 3) := by decide +kernel
theorem dX7_hold_18 : decode cX7_hold 18 = .ok (.iconst (-1), 1) := by decide +kernel
theorem dX7_hold_19 : decode cX7_hold 19 = .ok (.ireturn, 1) := by decide +kernel
theorem dX7_hold_20 : decode cX7_hold 20 = .ok (.aload_n 0, 1) := by decide +kernel
theorem dX7_hold_21 : decode cX7_hold 21 = .ok (.getfield 7, 3) := by decide +kernel
theorem dX7_hold_24 : decode cX7_hold 24 = .ok (.iload_n 1, 1) := by decide +kernel
theorem dX7_hold_25 : decode cX7_hold 25 = .ok (.iaload, 1) := by decide +kernel
theorem dX7_hold_26 : decode cX7_hold 26 = .ok (.istore_n 3, 1) := by decide +kernel
theorem dX7_hold_27 : decode cX7_hold 27 = .ok (.iload_n 3, 1) := by decide +kernel
theorem dX7_hold_28 : decode cX7_hold 28 = .ok (.iconst 1, 1) := by decide +kernel
theorem dX7_hold_29 : decode cX7_hold 29 = .ok (.if_icmp .ne 19, 3) := by decide +kernel
theorem dX7_hold_32 : decode cX7_hold 32 = .ok (.iload_n 2, 1) := by decide +kernel
theorem dX7_hold_33 : decode cX7_hold 33 = .ok (.ifCond .ne 15, 3) := by decide +kernel
theorem dX7_hold_36 : decode cX7_hold 36 = .ok (.aload_n 0, 1) := by decide +kernel
theorem dX7_hold_37 : decode cX7_hold 37 = .ok (.iconst 0, 1) := by decide +kernel
theorem dX7_hold_38 : decode cX7_hold 38 = .ok (.invokevirtual 110, 3) := by decide +kernel
theorem dX7_hold_41 : decode cX7_hold 41 = .ok (.iconst 4, 1) := by decide +kernel
theorem dX7_hold_42 : decode cX7_hold 42 = .ok (.if_icmp .ne 6, 3) := by decide +kernel
theorem dX7_hold_45 : decode cX7_hold 45 = .ok (.bipush (-3), 2) := by decide +kernel
theorem dX7_hold_47 : decode cX7_hold 47 = .ok (.ireturn, 1) := by decide +kernel
theorem dX7_hold_48 : decode cX7_hold 48 = .ok (.aload_n 0, 1) := by decide +kernel
theorem dX7_hold_49 : decode cX7_hold 49 = .ok (.getfield 7, 3) := by decide +kernel
theorem dX7_hold_52 : decode cX7_hold 52 = .ok (.iload_n 1, 1) := by decide +kernel
theorem dX7_hold_53 : decode cX7_hold 53 = .ok (.iload_n 2, 1) := by decide +kernel
theorem dX7_hold_54 : decode cX7_hold 54 = .ok (.iastore, 1) := by decide +kernel
theorem dX7_hold_55 : decode cX7_hold 55 = .ok (.aload_n 0, 1) := by decide +kernel
theorem dX7_hold_56 : decode cX7_hold 56 = .ok (.invokevirtual 149, 3) := by decide +kernel
theorem dX7_hold_59 : decode cX7_hold 59 = .ok (.pop, 1) := by decide +kernel
theorem dX7_hold_60 : decode cX7_hold 60 = .ok (.iload_n 3, 1) := by decide +kernel
theorem dX7_hold_61 : decode cX7_hold 61 = .ok (.ireturn, 1) := by decide +kernel
theorem dX7_stiffen_0 : decode cX7_stiffen 0 = .ok (.aload_n 0, 1) := by decide +kernel
theorem dX7_stiffen_1 : decode cX7_stiffen 1 = .ok (.iload_n 1, 1) := by decide +kernel
theorem dX7_stiffen_2 : decode cX7_stiffen 2 = .ok (.invokevirtual 205, 3) := by decide +kernel
theorem dX7_stiffen_5 : decode cX7_stiffen 5 = .ok (.ifCond .eq 15, 3) := by decide +kernel
theorem dX7_stiffen_8 : decode cX7_stiffen 8 = .ok (.iload_n 2, 1) := by decide +kernel
theorem dX7_stiffen_9 : decode cX7_stiffen 9 = .ok (.i2l, 1) := by decide +kernel
theorem dX7_stiffen_10 : decode cX7_stiffen 10 = .ok (.lconst 1, 1) := by decide +kernel
theorem dX7_stiffen_11 : decode cX7_stiffen 11 = .ok (.ldc2_w 279, 3) := by decide +kernel
theorem dX7_stiffen_14 : decode cX7_stiffen 14 = .ok (.invokestatic 66, 3) := by decide +kernel
theorem dX7_stiffen_17 : decode cX7_stiffen 17 = .ok (.ifCond .ne 5, 3) := by decide +kernel
theorem dX7_stiffen_20 : decode cX7_stiffen 20 = .ok (.iconst (-1), 1) := by decide +kernel
theorem dX7_stiffen_21 : decode cX7_stiffen 21 = .ok (.ireturn, 1) := by decide +kernel
theorem dX7_stiffen_22 : decode cX7_stiffen 22 = .ok (.aload_n 0, 1) := by decide +kernel
theorem dX7_stiffen_23 : decode cX7_stiffen 23 = .ok (.getfield 7, 3) := by decide +kernel
theorem dX7_stiffen_26 : decode cX7_stiffen 26 = .ok (.bipush 42, 2) := by decide +kernel
theorem dX7_stiffen_28 : decode cX7_stiffen 28 = .ok (.iload_n 1, 1) := by decide +kernel
theorem dX7_stiffen_29 : decode cX7_stiffen 29 = .ok (.iadd, 1) := by decide +kernel
theorem dX7_stiffen_30 : decode cX7_stiffen 30 = .ok (.iaload, 1) := by decide +kernel
theorem dX7_stiffen_31 : decode cX7_stiffen 31 = .ok (.istore_n 3, 1) := by decide +kernel
theorem dX7_stiffen_32 : decode cX7_stiffen 32 = .ok (.aload_n 0, 1) := by decide +kernel
theorem dX7_stiffen_33 : decode cX7_stiffen 33 = .ok (.getfield 7, 3) := by decide +kernel
theorem dX7_stiffen_36 : decode cX7_stiffen 36 = .ok (.bipush 42, 2) := by decide +kernel
theorem dX7_stiffen_38 : decode cX7_stiffen 38 = .ok (.iload_n 1, 1) := by decide +kernel
theorem dX7_stiffen_39 : decode cX7_stiffen 39 = .ok (.iadd, 1) := by decide +kernel
theorem dX7_stiffen_40 : decode cX7_stiffen 40 = .ok (.iload_n 2, 1) := by decide +kernel
theorem dX7_stiffen_41 : decode cX7_stiffen 41 = .ok (.iastore, 1) := by decide +kernel
theorem dX7_stiffen_42 : decode cX7_stiffen 42 = .ok (.aload_n 0, 1) := by decide +kernel
theorem dX7_stiffen_43 : decode cX7_stiffen 43 = .ok (.invokevirtual 149, 3) := by decide +kernel
theorem dX7_stiffen_46 : decode cX7_stiffen 46 = .ok (.pop, 1) := by decide +kernel
theorem dX7_stiffen_47 : decode cX7_stiffen 47 = .ok (.iload_n 3, 1) := by decide +kernel
theorem dX7_stiffen_48 : decode cX7_stiffen 48 = .ok (.ireturn, 1) := by decide +kernel
theorem dX7_puts_0 : decode cX7_puts 0 = .ok (.aload_n 0, 1) := by decide +kernel
theorem dX7_puts_1 : decode cX7_puts 1 = .ok (.invokevirtual 152, 3) := by decide +kernel
theorem dX7_puts_4 : decode cX7_puts 4 = .ok (.istore 4, 2) := by decide +kernel
theorem dX7_puts_6 : decode cX7_puts 6 = .ok (.aload_n 0, 1) := by decide +kernel
theorem dX7_puts_7 : decode cX7_puts 7 = .ok (.getfield 7, 3) := by decide +kernel
theorem dX7_puts_10 : decode cX7_puts 10 = .ok (.bipush 52, 2) := by decide +kernel
theorem dX7_puts_12 : decode cX7_puts 12 = .ok (.iload 4, 2) := by decide +kernel
theorem dX7_puts_14 : decode cX7_puts 14 = .ok (.iadd, 1) := by decide +kernel
theorem dX7_puts_15 : decode cX7_puts 15 = .ok (.iload_n 1, 1) := by decide +kernel
theorem dX7_puts_16 : decode cX7_puts 16 = .ok (.iastore, 1) := by decide +kernel
theorem dX7_puts_17 : decode cX7_puts 17 = .ok (.aload_n 0, 1) := by decide +kernel
theorem dX7_puts_18 : decode cX7_puts 18 = .ok (.getfield 7, 3) := by decide +kernel
theorem dX7_puts_21 : decode cX7_puts 21 = .ok (.bipush 60, 2) := by decide +kernel
theorem dX7_puts_23 : decode cX7_puts 23 = .ok (.iload 4, 2) := by decide +kernel
theorem dX7_puts_25 : decode cX7_puts 25 = .ok (.iadd, 1) := by decide +kernel
theorem dX7_puts_26 : decode cX7_puts 26 = .ok (.iload_n 2, 1) := by decide +kernel
theorem dX7_puts_27 : decode cX7_puts 27 = .ok (.iastore, 1) := by decide +kernel
theorem dX7_puts_28 : decode cX7_puts 28 = .ok (.aload_n 0, 1) := by decide +kernel
theorem dX7_puts_29 : decode cX7_puts 29 = .ok (.getfield 7, 3) := by decide +kernel
theorem dX7_puts_32 : decode cX7_puts 32 = .ok (.bipush 68, 2) := by decide +kernel
theorem dX7_puts_34 : decode cX7_puts 34 = .ok (.iload 4, 2) := by decide +kernel
theorem dX7_puts_36 : decode cX7_puts 36 = .ok (.iadd, 1) := by decide +kernel
theorem dX7_puts_37 : decode cX7_puts 37 = .ok (.iload_n 3, 1) := by decide +kernel
theorem dX7_puts_38 : decode cX7_puts 38 = .ok (.iastore, 1) := by decide +kernel
theorem dX7_puts_39 : decode cX7_puts 39 = .ok (.aload_n 0, 1) := by decide +kernel
theorem dX7_puts_40 : decode cX7_puts 40 = .ok (.getfield 7, 3) := by decide +kernel
theorem dX7_puts_43 : decode cX7_puts 43 = .ok (.bipush 78, 2) := by decide +kernel
theorem dX7_puts_45 : decode cX7_puts 45 = .ok (.dup2, 1) := by decide +kernel
theorem dX7_puts_46 : decode cX7_puts 46 = .ok (.iaload, 1) := by decide +kernel
theorem dX7_puts_47 : decode cX7_puts 47 = .ok (.iconst 1, 1) := by decide +kernel
theorem dX7_puts_48 : decode cX7_puts 48 = .ok (.iadd, 1) := by decide +kernel
theorem dX7_puts_49 : decode cX7_puts 49 = .ok (.iastore, 1) := by decide +kernel
theorem dX7_puts_50 : decode cX7_puts 50 = .ok (.return_, 1) := by decide +kernel
theorem dX7_put_0 : decode cX7_put 0 = .ok (.aload_n 0, 1) := by decide +kernel
theorem dX7_put_1 : decode cX7_put 1 = .ok (.iload_n 1, 1) := by decide +kernel
theorem dX7_put_2 : decode cX7_put 2 = .ok (.invokevirtual 205, 3) := by decide +kernel
theorem dX7_put_5 : decode cX7_put 5 = .ok (.ifCond .eq 46, 3) := by decide +kernel
theorem dX7_put_8 : decode cX7_put 8 = .ok (.iload_n 3, 1) := by decide +kernel
theorem dX7_put_9 : decode cX7_put 9 = .ok (.i2l, 1) := by decide +kernel
theorem dX7_put_10 : decode cX7_put 10 = .ok (.lconst 0, 1) := by decide +kernel
theorem dX7_put_11 : decode cX7_put 11 = .ok (.aload_n 0, 1) := by decide +kernel
theorem dX7_put_12 : decode cX7_put 12 = .ok (.getfield 7, 3) := by decide +kernel
theorem dX7_put_15 : decode cX7_put 15 = .ok (.bipush 32, 2) := by decide +kernel
theorem dX7_put_17 : decode cX7_put 17 = .ok (.iload_n 1, 1) := by decide +kernel
theorem dX7_put_18 : decode cX7_put 18 = .ok (.iadd, 1) := by decide +kernel
theorem dX7_put_19 : decode cX7_put 19 = .ok (.iaload, 1) := by decide +kernel
theorem dX7_put_20 : decode cX7_put 20 = .ok (.iconst 1, 1) := by decide +kernel
theorem dX7_put_21 : decode cX7_put 21 = .ok (.isub, 1) := by decide +kernel
theorem dX7_put_22 : decode cX7_put 22 = .ok (.i2l, 1) := by decide +kernel
theorem dX7_put_23 : decode cX7_put 23 = .ok (.invokestatic 66, 3) := by decide +kernel
theorem dX7_put_26 : decode cX7_put 26 = .ok (.ifCond .eq 25, 3) := by decide +kernel
theorem dX7_put_29 : decode cX7_put 29 = .ok (.iload_n 2, 1) := by decide +kernel
theorem dX7_put_30 : decode cX7_put 30 = .ok (.i2l, 1) := by decide +kernel
theorem dX7_put_31 : decode cX7_put 31 = .ok (.lconst 1, 1) := by decide +kernel
theorem dX7_put_32 : decode cX7_put 32 = .ok (.iload_n 3, 1) := by decide +kernel
theorem dX7_put_33 : decode cX7_put 33 = .ok (.ifCond .ne 9, 3) := by decide +kernel
theorem dX7_put_36 : decode cX7_put 36 = .ok (.ldc2_w 281, 3) := by decide +kernel
theorem dX7_put_39 : decode cX7_put 39 = .ok (.goto 6, 3) := by decide +kernel
theorem dX7_put_42 : decode cX7_put 42 = .ok (.ldc2_w 283, 3) := by decide +kernel
theorem dX7_put_45 : decode cX7_put 45 = .ok (.invokestatic 66, 3) := by decide +kernel
theorem dX7_put_48 : decode cX7_put 48 = .ok (.ifCond .ne 5, 3) := by decide +kernel
theorem dX7_put_51 : decode cX7_put 51 = .ok (.iconst (-1), 1) := by decide +kernel
theorem dX7_put_52 : decode cX7_put 52 = .ok (.ireturn, 1) := by decide +kernel
theorem dX7_put_53 : decode cX7_put 53 = .ok (.aload_n 0, 1) := by decide +kernel
theorem dX7_put_54 : decode cX7_put 54 = .ok (.invokevirtual 152, 3) := by decide +kernel
theorem dX7_put_57 : decode cX7_put 57 = .ok (.bipush 8, 2) := by decide +kernel
theorem dX7_put_59 : decode cX7_put 59 = .ok (.if_icmp .ne 6, 3) := by decide +kernel
theorem dX7_put_62 : decode cX7_put 62 = .ok (.bipush (-3), 2) := by decide +kernel
theorem dX7_put_64 : decode cX7_put 64 = .ok (.ireturn, 1) := by decide +kernel
theorem dX7_put_65 : decode cX7_put 65 = .ok (.aload_n 0, 1) := by decide +kernel
theorem dX7_put_66 : decode cX7_put 66 = .ok (.iload_n 1, 1) := by decide +kernel
theorem dX7_put_67 : decode cX7_put 67 = .ok (.iload_n 2, 1) := by decide +kernel
theorem dX7_put_68 : decode cX7_put 68 = .ok (.iload_n 3, 1) := by decide +kernel
theorem dX7_put_69 : decode cX7_put 69 = .ok (.invokevirtual 285, 3) := by decide +kernel
theorem dX7_put_72 : decode cX7_put 72 = .ok (.aload_n 0, 1) := by decide +kernel
theorem dX7_put_73 : decode cX7_put 73 = .ok (.invokevirtual 149, 3) := by decide +kernel
theorem dX7_put_76 : decode cX7_put 76 = .ok (.pop, 1) := by decide +kernel
theorem dX7_put_77 : decode cX7_put 77 = .ok (.aload_n 0, 1) := by decide +kernel
theorem dX7_put_78 : decode cX7_put 78 = .ok (.invokevirtual 152, 3) := by decide +kernel
theorem dX7_put_81 : decode cX7_put 81 = .ok (.ireturn, 1) := by decide +kernel
theorem dX7_lift_0 : decode cX7_lift 0 = .ok (.iload_n 1, 1) := by decide +kernel
theorem dX7_lift_1 : decode cX7_lift 1 = .ok (.i2l, 1) := by decide +kernel
theorem dX7_lift_2 : decode cX7_lift 2 = .ok (.lconst 0, 1) := by decide +kernel
theorem dX7_lift_3 : decode cX7_lift 3 = .ok (.aload_n 0, 1) := by decide +kernel
theorem dX7_lift_4 : decode cX7_lift 4 = .ok (.invokevirtual 152, 3) := by decide +kernel
theorem dX7_lift_7 : decode cX7_lift 7 = .ok (.iconst 1, 1) := by decide +kernel
theorem dX7_lift_8 : decode cX7_lift 8 = .ok (.isub, 1) := by decide +kernel
theorem dX7_lift_9 : decode cX7_lift 9 = .ok (.i2l, 1) := by decide +kernel
theorem dX7_lift_10 : decode cX7_lift 10 = .ok (.invokestatic 66, 3) := by decide +kernel
theorem dX7_lift_13 : decode cX7_lift 13 = .ok (.ifCond .ne 5, 3) := by decide +kernel
theorem dX7_lift_16 : decode cX7_lift 16 = .ok (.iconst (-1), 1) := by decide +kernel
theorem dX7_lift_17 : decode cX7_lift 17 = .ok (.ireturn, 1) := by decide +kernel
theorem dX7_lift_18 : decode cX7_lift 18 = .ok (.iload_n 1, 1) := by decide +kernel
theorem dX7_lift_19 : decode cX7_lift 19 = .ok (.istore_n 2, 1) := by decide +kernel
theorem dX7_lift_20 : decode cX7_lift 20 = .ok (.iload_n 2, 1) := by decide +kernel
theorem dX7_lift_21 : decode cX7_lift 21 = .ok (.iconst 1, 1) := by decide +kernel
theorem dX7_lift_22 : decode cX7_lift 22 = .ok (.iadd, 1) := by decide +kernel
theorem dX7_lift_23 : decode cX7_lift 23 = .ok (.aload_n 0, 1) := by decide +kernel
theorem dX7_lift_24 : decode cX7_lift 24 = .ok (.invokevirtual 152, 3) := by decide +kernel
theorem dX7_lift_27 : decode cX7_lift 27 = .ok (.if_icmp .ge 42, 3) := by decide +kernel
theorem dX7_lift_30 : decode cX7_lift 30 = .ok (.bipush 52, 2) := by decide +kernel
theorem dX7_lift_32 : decode cX7_lift 32 = .ok (.istore_n 3, 1) := by decide +kernel
theorem dX7_lift_33 : decode cX7_lift 33 = .ok (.iload_n 3, 1) := by decide +kernel
theorem dX7_lift_34 : decode cX7_lift 34 = .ok (.bipush 68, 2) := by decide +kernel
theorem dX7_lift_36 : decode cX7_lift 36 = .ok (.if_icmp .gt 27, 3) := by decide +kernel
theorem dX7_lift_39 : decode cX7_lift 39 = .ok (.aload_n 0, 1) := by decide +kernel
theorem dX7_lift_40 : decode cX7_lift 40 = .ok (.getfield 7, 3) := by decide +kernel
theorem dX7_lift_43 : decode cX7_lift 43 = .ok (.iload_n 3, 1) := by decide +kernel
theorem dX7_lift_44 : decode cX7_lift 44 = .ok (.iload_n 2, 1) := by decide +kernel
theorem dX7_lift_45 : decode cX7_lift 45 = .ok (.iadd, 1) := by decide +kernel
theorem dX7_lift_46 : decode cX7_lift 46 = .ok (.aload_n 0, 1) := by decide +kernel
theorem dX7_lift_47 : decode cX7_lift 47 = .ok (.getfield 7, 3) := by decide +kernel
theorem dX7_lift_50 : decode cX7_lift 50 = .ok (.iload_n 3, 1) := by decide +kernel
theorem dX7_lift_51 : decode cX7_lift 51 = .ok (.iload_n 2, 1) := by decide +kernel
theorem dX7_lift_52 : decode cX7_lift 52 = .ok (.iadd, 1) := by decide +kernel
theorem dX7_lift_53 : decode cX7_lift 53 = .ok (.iconst 1, 1) := by decide +kernel
theorem dX7_lift_54 : decode cX7_lift 54 = .ok (.iadd, 1) := by decide +kernel
theorem dX7_lift_55 : decode cX7_lift 55 = .ok (.iaload, 1) := by decide +kernel
theorem dX7_lift_56 : decode cX7_lift 56 = .ok (.iastore, 1) := by decide +kernel
theorem dX7_lift_57 : decode cX7_lift 57 = .ok (.iinc 3 8, 3) := by decide +kernel
theorem dX7_lift_60 : decode cX7_lift 60 = .ok (.goto (-27), 3) := by decide +kernel
theorem dX7_lift_63 : decode cX7_lift 63 = .ok (.iinc 2 1, 3) := by decide +kernel
theorem dX7_lift_66 : decode cX7_lift 66 = .ok (.goto (-46), 3) := by decide +kernel
theorem dX7_lift_69 : decode cX7_lift 69 = .ok (.aload_n 0, 1) := by decide +kernel
theorem dX7_lift_70 : decode cX7_lift 70 = .ok (.getfield 7, 3) := by decide +kernel
theorem dX7_lift_73 : decode cX7_lift 73 = .ok (.bipush 78, 2) := by decide +kernel
theorem dX7_lift_75 : decode cX7_lift 75 = .ok (.dup2, 1) := by decide +kernel
theorem dX7_lift_76 : decode cX7_lift 76 = .ok (.iaload, 1) := by decide +kernel
theorem dX7_lift_77 : decode cX7_lift 77 = .ok (.iconst 1, 1) := by decide +kernel
theorem dX7_lift_78 : decode cX7_lift 78 = .ok (.isub, 1) := by decide +kernel
theorem dX7_lift_79 : decode cX7_lift 79 = .ok (.iastore, 1) := by decide +kernel
theorem dX7_lift_80 : decode cX7_lift 80 = .ok (.aload_n 0, 1) := by decide +kernel
theorem dX7_lift_81 : decode cX7_lift 81 = .ok (.invokevirtual 149, 3) := by decide +kernel
theorem dX7_lift_84 : decode cX7_lift 84 = .ok (.pop, 1) := by decide +kernel
theorem dX7_lift_85 : decode cX7_lift 85 = .ok (.aload_n 0, 1) := by decide +kernel
theorem dX7_lift_86 : decode cX7_lift 86 = .ok (.invokevirtual 152, 3) := by decide +kernel
theorem dX7_lift_89 : decode cX7_lift 89 = .ok (.ireturn, 1) := by decide +kernel
theorem dX7_fall_0 : decode cX7_fall 0 = .ok (.iload_n 2, 1) := by decide +kernel
theorem dX7_fall_1 : decode cX7_fall 1 = .ok (.i2l, 1) := by decide +kernel
theorem dX7_fall_2 : decode cX7_fall 2 = .ok (.lconst 1, 1) := by decide +kernel
theorem dX7_fall_3 : decode cX7_fall 3 = .ok (.ldc2_w 289, 3) := by decide +kernel
theorem dX7_fall_6 : decode cX7_fall 6 = .ok (.invokestatic 66, 3) := by decide +kernel
theorem dX7_fall_9 : decode cX7_fall 9 = .ok (.ifCond .ne 5, 3) := by decide +kernel
theorem dX7_fall_12 : decode cX7_fall 12 = .ok (.iconst (-1), 1) := by decide +kernel
theorem dX7_fall_13 : decode cX7_fall 13 = .ok (.ireturn, 1) := by decide +kernel
theorem dX7_fall_14 : decode cX7_fall 14 = .ok (.aload_n 0, 1) := by decide +kernel
theorem dX7_fall_15 : decode cX7_fall 15 = .ok (.invokevirtual 162, 3) := by decide +kernel
theorem dX7_fall_18 : decode cX7_fall 18 = .ok (.ifCond .ne 6, 3) := by decide +kernel
theorem dX7_fall_21 : decode cX7_fall 21 = .ok (.bipush (-2), 2) := by decide +kernel
theorem dX7_fall_23 : decode cX7_fall 23 = .ok (.ireturn, 1) := by decide +kernel
theorem dX7_fall_24 : decode cX7_fall 24 = .ok (.iload_n 1, 1) := by decide +kernel
theorem dX7_fall_25 : decode cX7_fall 25 = .ok (.istore_n 3, 1) := by decide +kernel
theorem dX7_fall_26 : decode cX7_fall 26 = .ok (.iconst 0, 1) := by decide +kernel
theorem dX7_fall_27 : decode cX7_fall 27 = .ok (.istore 4, 2) := by decide +kernel
theorem dX7_fall_29 : decode cX7_fall 29 = .ok (.iload 4, 2) := by decide +kernel
theorem dX7_fall_31 : decode cX7_fall 31 = .ok (.iload_n 2, 1) := by decide +kernel
theorem dX7_fall_32 : decode cX7_fall 32 = .ok (.if_icmp .ge 94, 3) := by decide +kernel
theorem dX7_fall_35 : decode cX7_fall 35 = .ok (.aload_n 0, 1) := by decide +kernel
theorem dX7_fall_36 : decode cX7_fall 36 = .ok (.invokevirtual 152, 3) := by decide +kernel
theorem dX7_fall_39 : decode cX7_fall 39 = .ok (.bipush 8, 2) := by decide +kernel
theorem dX7_fall_41 : decode cX7_fall 41 = .ok (.if_icmp .ge 85, 3) := by decide +kernel
theorem dX7_fall_44 : decode cX7_fall 44 = .ok (.iload_n 3, 1) := by decide +kernel
theorem dX7_fall_45 : decode cX7_fall 45 = .ok (.ldc_w 291, 3) := by decide +kernel
theorem dX7_fall_48 : decode cX7_fall 48 = .ok (.imul, 1) := by decide +kernel
theorem dX7_fall_49 : decode cX7_fall 49 = .ok (.sipush 12345, 3) := by decide +kernel
theorem dX7_fall_52 : decode cX7_fall 52 = .ok (.iadd, 1) := by decide +kernel
theorem dX7_fall_53 : decode cX7_fall 53 = .ok (.istore_n 3, 1) := by decide +kernel
theorem dX7_fall_54 : decode cX7_fall 54 = .ok (.iload_n 3, 1) := by decide +kernel
theorem dX7_fall_55 : decode cX7_fall 55 = .ok (.bipush 16, 2) := by decide +kernel
theorem dX7_fall_57 : decode cX7_fall 57 = .ok (.ishr, 1) := by decide +kernel
theorem dX7_fall_58 : decode cX7_fall 58 = .ok (.sipush 32767, 3) := by decide +kernel
theorem dX7_fall_61 : decode cX7_fall 61 = .ok (.iand, 1) := by decide +kernel
theorem dX7_fall_62 : decode cX7_fall 62 = .ok (.istore 5, 2) := by decide +kernel
theorem dX7_fall_64 : decode cX7_fall 64 = .ok (.iload 5, 2) := by decide +kernel
theorem dX7_fall_66 : decode cX7_fall 66 = .ok (.aload_n 0, 1) := by decide +kernel
theorem dX7_fall_67 : decode cX7_fall 67 = .ok (.invokevirtual 162, 3) := by decide +kernel
theorem dX7_fall_70 : decode cX7_fall 70 = .ok (.irem, 1) := by decide +kernel
theorem dX7_fall_71 : decode cX7_fall 71 = .ok (.istore 6, 2) := by decide +kernel
theorem dX7_fall_73 : decode cX7_fall 73 = .ok (.iload 5, 2) := by decide +kernel
theorem dX7_fall_75 : decode cX7_fall 75 = .ok (.bipush 16, 2) := by decide +kernel
theorem dX7_fall_77 : decode cX7_fall 77 = .ok (.idiv, 1) := by decide +kernel
theorem dX7_fall_78 : decode cX7_fall 78 = .ok (.aload_n 0, 1) := by decide +kernel
theorem dX7_fall_79 : decode cX7_fall 79 = .ok (.getfield 7, 3) := by decide +kernel
theorem dX7_fall_82 : decode cX7_fall 82 = .ok (.bipush 32, 2) := by decide +kernel
theorem dX7_fall_84 : decode cX7_fall 84 = .ok (.iload 6, 2) := by decide +kernel
theorem dX7_fall_86 : decode cX7_fall 86 = .ok (.iadd, 1) := by decide +kernel
theorem dX7_fall_87 : decode cX7_fall 87 = .ok (.iaload, 1) := by decide +kernel
theorem dX7_fall_88 : decode cX7_fall 88 = .ok (.irem, 1) := by decide +kernel
theorem dX7_fall_89 : decode cX7_fall 89 = .ok (.istore 7, 2) := by decide +kernel
theorem dX7_fall_91 : decode cX7_fall 91 = .ok (.aload_n 0, 1) := by decide +kernel
theorem dX7_fall_92 : decode cX7_fall 92 = .ok (.iload 6, 2) := by decide +kernel
theorem dX7_fall_94 : decode cX7_fall 94 = .ok (.iload 5, 2) := by decide +kernel
theorem dX7_fall_96 : decode cX7_fall 96 = .ok (.bipush 8, 2) := by decide +kernel
theorem dX7_fall_98 : decode cX7_fall 98 = .ok (.idiv, 1) := by decide +kernel
theorem dX7_fall_99 : decode cX7_fall 99 = .ok (.iload 7, 2) := by decide +kernel
theorem dX7_fall_101 : decode cX7_fall 101 = .ok (.ifCond .ne 8, 3) := by decide +kernel
theorem dX7_fall_104 : decode cX7_fall 104 = .ok (.bipush 99, 2) := by decide +kernel
theorem dX7_fall_106 : decode cX7_fall 106 = .ok (.goto 6, 3) := by decide +kernel
theorem dX7_fall_109 : decode cX7_fall 109 = .ok (.sipush 999, 3) := by decide +kernel
theorem dX7_fall_112 : decode cX7_fall 112 = .ok (.irem, 1) := by decide +kernel
theorem dX7_fall_113 : decode cX7_fall 113 = .ok (.iconst 1, 1) := by decide +kernel
theorem dX7_fall_114 : decode cX7_fall 114 = .ok (.iadd, 1) := by decide +kernel
theorem dX7_fall_115 : decode cX7_fall 115 = .ok (.iload 7, 2) := by decide +kernel
theorem dX7_fall_117 : decode cX7_fall 117 = .ok (.invokevirtual 285, 3) := by decide +kernel
theorem dX7_fall_120 : decode cX7_fall 120 = .ok (.iinc 4 1, 3) := by decide +kernel
theorem dX7_fall_123 : decode cX7_fall 123 = .ok (.goto (-94), 3) := by decide +kernel
theorem dX7_fall_126 : decode cX7_fall 126 = .ok (.iload 4, 2) := by decide +kernel
theorem dX7_fall_128 : decode cX7_fall 128 = .ok (.ifCond .le 8, 3) := by decide +kernel
theorem dX7_fall_131 : decode cX7_fall 131 = .ok (.aload_n 0, 1) := by decide +kernel
theorem dX7_fall_132 : decode cX7_fall 132 = .ok (.invokevirtual 149, 3) := by decide +kernel
theorem dX7_fall_135 : decode cX7_fall 135 = .ok (.pop, 1) := by decide +kernel
theorem dX7_fall_136 : decode cX7_fall 136 = .ok (.iload 4, 2) := by decide +kernel
theorem dX7_fall_138 : decode cX7_fall 138 = .ok (.ireturn, 1) := by decide +kernel
theorem dX7_keep_0 : decode cX7_keep 0 = .ok (.iload_n 1, 1) := by decide +kernel
theorem dX7_keep_1 : decode cX7_keep 1 = .ok (.i2l, 1) := by decide +kernel
theorem dX7_keep_2 : decode cX7_keep 2 = .ok (.lconst 0, 1) := by decide +kernel
theorem dX7_keep_3 : decode cX7_keep 3 = .ok (.lconst 1, 1) := by decide +kernel
theorem dX7_keep_4 : decode cX7_keep 4 = .ok (.invokestatic 66, 3) := by decide +kernel
theorem dX7_keep_7 : decode cX7_keep 7 = .ok (.ifCond .ne 5, 3) := by decide +kernel
theorem dX7_keep_10 : decode cX7_keep 10 = .ok (.iconst (-1), 1) := by decide +kernel
theorem dX7_keep_11 : decode cX7_keep 11 = .ok (.ireturn, 1) := by decide +kernel
theorem dX7_keep_12 : decode cX7_keep 12 = .ok (.aload_n 0, 1) := by decide +kernel
theorem dX7_keep_13 : decode cX7_keep 13 = .ok (.getfield 51, 3) := by decide +kernel
theorem dX7_keep_16 : decode cX7_keep 16 = .ok (.iload_n 1, 1) := by decide +kernel
theorem dX7_keep_17 : decode cX7_keep 17 = .ok (.baload, 1) := by decide +kernel
theorem dX7_keep_18 : decode cX7_keep 18 = .ok (.ifCond .eq 7, 3) := by decide +kernel
theorem dX7_keep_21 : decode cX7_keep 21 = .ok (.iconst 1, 1) := by decide +kernel
theorem dX7_keep_22 : decode cX7_keep 22 = .ok (.goto 4, 3) := by decide +kernel
theorem dX7_keep_25 : decode cX7_keep 25 = .ok (.iconst 0, 1) := by decide +kernel
theorem dX7_keep_26 : decode cX7_keep 26 = .ok (.istore_n 2, 1) := by decide +kernel
theorem dX7_keep_27 : decode cX7_keep 27 = .ok (.aload_n 0, 1) := by decide +kernel
theorem dX7_keep_28 : decode cX7_keep 28 = .ok (.iconst 0, 1) := by decide +kernel
theorem dX7_keep_29 : decode cX7_keep 29 = .ok (.bipush 79, 2) := by decide +kernel
theorem dX7_keep_31 : decode cX7_keep 31 = .ok (.iload_n 1, 1) := by decide +kernel
theorem dX7_keep_32 : decode cX7_keep 32 = .ok (.imul, 1) := by decide +kernel
theorem dX7_keep_33 : decode cX7_keep 33 = .ok (.bipush 79, 2) := by decide +kernel
theorem dX7_keep_35 : decode cX7_keep 35 = .ok (.iadd, 1) := by decide +kernel
theorem dX7_keep_36 : decode cX7_keep 36 = .ok (.invokevirtual 145, 3) := by decide +kernel
theorem dX7_keep_39 : decode cX7_keep 39 = .ok (.aload_n 0, 1) := by decide +kernel
theorem dX7_keep_40 : decode cX7_keep 40 = .ok (.getfield 51, 3) := by decide +kernel
theorem dX7_keep_43 : decode cX7_keep 43 = .ok (.iload_n 1, 1) := by decide +kernel
theorem dX7_keep_44 : decode cX7_keep 44 = .ok (.iconst 1, 1) := by decide +kernel
theorem dX7_keep_45 : decode cX7_keep 45 = .ok (.bastore, 1) := by decide +kernel
theorem dX7_keep_46 : decode cX7_keep 46 = .ok (.iload_n 2, 1) := by decide +kernel
theorem dX7_keep_47 : decode cX7_keep 47 = .ok (.ireturn, 1) := by decide +kernel
theorem dX7_back_0 : decode cX7_back 0 = .ok (.iload_n 1, 1) := by decide +kernel
theorem dX7_back_1 : decode cX7_back 1 = .ok (.i2l, 1) := by decide +kernel
theorem dX7_back_2 : decode cX7_back 2 = .ok (.lconst 0, 1) := by decide +kernel
theorem dX7_back_3 : decode cX7_back 3 = .ok (.lconst 1, 1) := by decide +kernel
theorem dX7_back_4 : decode cX7_back 4 = .ok (.invokestatic 66, 3) := by decide +kernel
theorem dX7_back_7 : decode cX7_back 7 = .ok (.ifCond .ne 5, 3) := by decide +kernel
theorem dX7_back_10 : decode cX7_back 10 = .ok (.iconst (-1), 1) := by decide +kernel
theorem dX7_back_11 : decode cX7_back 11 = .ok (.ireturn, 1) := by decide +kernel
theorem dX7_back_12 : decode cX7_back 12 = .ok (.aload_n 0, 1) := by decide +kernel
theorem dX7_back_13 : decode cX7_back 13 = .ok (.getfield 51, 3) := by decide +kernel
theorem dX7_back_16 : decode cX7_back 16 = .ok (.iload_n 1, 1) := by decide +kernel
theorem dX7_back_17 : decode cX7_back 17 = .ok (.baload, 1) := by decide +kernel
theorem dX7_back_18 : decode cX7_back 18 = .ok (.ifCond .ne 6, 3) := by decide +kernel
theorem dX7_back_21 : decode cX7_back 21 = .ok (.bipush (-2), 2) := by decide +kernel
theorem dX7_back_23 : decode cX7_back 23 = .ok (.ireturn, 1) := by decide +kernel
theorem dX7_back_24 : decode cX7_back 24 = .ok (.aload_n 0, 1) := by decide +kernel
theorem dX7_back_25 : decode cX7_back 25 = .ok (.bipush 79, 2) := by decide +kernel
theorem dX7_back_27 : decode cX7_back 27 = .ok (.iload_n 1, 1) := by decide +kernel
theorem dX7_back_28 : decode cX7_back 28 = .ok (.imul, 1) := by decide +kernel
theorem dX7_back_29 : decode cX7_back 29 = .ok (.bipush 79, 2) := by decide +kernel
theorem dX7_back_31 : decode cX7_back 31 = .ok (.iadd, 1) := by decide +kernel
theorem dX7_back_32 : decode cX7_back 32 = .ok (.iconst 0, 1) := by decide +kernel
theorem dX7_back_33 : decode cX7_back 33 = .ok (.invokevirtual 145, 3) := by decide +kernel
theorem dX7_back_36 : decode cX7_back 36 = .ok (.aload_n 0, 1) := by decide +kernel
theorem dX7_back_37 : decode cX7_back 37 = .ok (.invokevirtual 149, 3) := by decide +kernel
theorem dX7_back_40 : decode cX7_back 40 = .ok (.pop, 1) := by decide +kernel
theorem dX7_back_41 : decode cX7_back 41 = .ok (.aload_n 0, 1) := by decide +kernel
theorem dX7_back_42 : decode cX7_back 42 = .ok (.invokevirtual 183, 3) := by decide +kernel
theorem dX7_back_45 : decode cX7_back 45 = .ok (.ireturn, 1) := by decide +kernel
theorem dX7_sheet_0 : decode cX7_sheet 0 = .ok (.iload_n 1, 1) := by decide +kernel
theorem dX7_sheet_1 : decode cX7_sheet 1 = .ok (.i2l, 1) := by decide +kernel
theorem dX7_sheet_2 : decode cX7_sheet 2 = .ok (.lconst 0, 1) := by decide +kernel
theorem dX7_sheet_3 : decode cX7_sheet 3 = .ok (.ldc2_w 249, 3) := by decide +kernel
theorem dX7_sheet_6 : decode cX7_sheet 6 = .ok (.invokestatic 66, 3) := by decide +kernel
theorem dX7_sheet_9 : decode cX7_sheet 9 = .ok (.ifCond .eq 21, 3) := by decide +kernel
theorem dX7_sheet_12 : decode cX7_sheet 12 = .ok (.iload_n 2, 1) := by decide +kernel
theorem dX7_sheet_13 : decode cX7_sheet 13 = .ok (.i2l, 1) := by decide +kernel
theorem dX7_sheet_14 : decode cX7_sheet 14 = .ok (.lconst 0, 1) := by decide +kernel
theorem dX7_sheet_15 : decode cX7_sheet 15 = .ok (.ldc2_w 222, 3) := by decide +kernel
theorem dX7_sheet_18 : decode cX7_sheet 18 = .ok (.invokestatic 66, 3) := by decide +kernel
theorem dX7_sheet_21 : decode cX7_sheet 21 = .ok (.ifCond .eq 9, 3) := by decide +kernel
theorem dX7_sheet_24 : decode cX7_sheet 24 = .ok (.iload_n 3, 1) := by decide +kernel
theorem dX7_sheet_25 : decode cX7_sheet 25 = .ok (.bipush 40, 2) := by decide +kernel
theorem dX7_sheet_27 : decode cX7_sheet 27 = .ok (.if_icmp .le 5, 3) := by decide +kernel
theorem dX7_sheet_30 : decode cX7_sheet 30 = .ok (.iconst (-1), 1) := by decide +kernel
theorem dX7_sheet_31 : decode cX7_sheet 31 = .ok (.ireturn, 1) := by decide +kernel
theorem dX7_sheet_32 : decode cX7_sheet 32 = .ok (.iload_n 3, 1) := by decide +kernel
theorem dX7_sheet_33 : decode cX7_sheet 33 = .ok (.ifCond .ge 6, 3) := by decide +kernel
theorem dX7_sheet_36 : decode cX7_sheet 36 = .ok (.bipush (-14), 2) := by decide +kernel
theorem dX7_sheet_38 : decode cX7_sheet 38 = .ok (.ireturn, 1) := by decide +kernel
theorem dX7_sheet_39 : decode cX7_sheet 39 = .ok (.aload_n 0, 1) := by decide +kernel
theorem dX7_sheet_40 : decode cX7_sheet 40 = .ok (.getfield 55, 3) := by decide +kernel
theorem dX7_sheet_43 : decode cX7_sheet 43 = .ok (.iload_n 1, 1) := by decide +kernel
theorem dX7_sheet_44 : decode cX7_sheet 44 = .ok (.iload_n 2, 1) := by decide +kernel
theorem dX7_sheet_45 : decode cX7_sheet 45 = .ok (.iastore, 1) := by decide +kernel
theorem dX7_sheet_46 : decode cX7_sheet 46 = .ok (.aload_n 0, 1) := by decide +kernel
theorem dX7_sheet_47 : decode cX7_sheet 47 = .ok (.getfield 58, 3) := by decide +kernel
theorem dX7_sheet_50 : decode cX7_sheet 50 = .ok (.iload_n 1, 1) := by decide +kernel
theorem dX7_sheet_51 : decode cX7_sheet 51 = .ok (.iload_n 3, 1) := by decide +kernel
theorem dX7_sheet_52 : decode cX7_sheet 52 = .ok (.iastore, 1) := by decide +kernel
theorem dX7_sheet_53 : decode cX7_sheet 53 = .ok (.iconst 0, 1) := by decide +kernel
theorem dX7_sheet_54 : decode cX7_sheet 54 = .ok (.istore 4, 2) := by decide +kernel
theorem dX7_sheet_56 : decode cX7_sheet 56 = .ok (.iload 4, 2) := by decide +kernel
theorem dX7_sheet_58 : decode cX7_sheet 58 = .ok (.bipush 40, 2) := by decide +kernel
theorem dX7_sheet_60 : decode cX7_sheet 60 = .ok (.if_icmp .ge 22, 3) := by decide +kernel
theorem dX7_sheet_63 : decode cX7_sheet 63 = .ok (.aload_n 0, 1) := by decide +kernel
theorem dX7_sheet_64 : decode cX7_sheet 64 = .ok (.getfield 61, 3) := by decide +kernel
theorem dX7_sheet_67 : decode cX7_sheet 67 = .ok (.bipush 40, 2) := by decide +kernel
theorem dX7_sheet_69 : decode cX7_sheet 69 = .ok (.iload_n 1, 1) := by decide +kernel
theorem dX7_sheet_70 : decode cX7_sheet 70 = .ok (.imul, 1) := by decide +kernel
theorem dX7_sheet_71 : decode cX7_sheet 71 = .ok (.iload 4, 2) := by decide +kernel
theorem dX7_sheet_73 : decode cX7_sheet 73 = .ok (.iadd, 1) := by decide +kernel
theorem dX7_sheet_74 : decode cX7_sheet 74 = .ok (.iconst 0, 1) := by decide +kernel
theorem dX7_sheet_75 : decode cX7_sheet 75 = .ok (.iastore, 1) := by decide +kernel
theorem dX7_sheet_76 : decode cX7_sheet 76 = .ok (.iinc 4 1, 3) := by decide +kernel
theorem dX7_sheet_79 : decode cX7_sheet 79 = .ok (.goto (-23), 3) := by decide +kernel
theorem dX7_sheet_82 : decode cX7_sheet 82 = .ok (.iconst 1, 1) := by decide +kernel
theorem dX7_sheet_83 : decode cX7_sheet 83 = .ok (.ireturn, 1) := by decide +kernel
theorem dX7_lay_0 : decode cX7_lay 0 = .ok (.iload_n 1, 1) := by decide +kernel
theorem dX7_lay_1 : decode cX7_lay 1 = .ok (.i2l, 1) := by decide +kernel
theorem dX7_lay_2 : decode cX7_lay 2 = .ok (.lconst 0, 1) := by decide +kernel
theorem dX7_lay_3 : decode cX7_lay 3 = .ok (.ldc2_w 249, 3) := by decide +kernel
theorem dX7_lay_6 : decode cX7_lay 6 = .ok (.invokestatic 66, 3) := by decide +kernel
theorem dX7_lay_9 : decode cX7_lay 9 = .ok (.ifCond .ne 5, 3) := by decide +kernel
theorem dX7_lay_12 : decode cX7_lay 12 = .ok (.iconst (-1), 1) := by decide +kernel
theorem dX7_lay_13 : decode cX7_lay 13 = .ok (.ireturn, 1) := by decide +kernel
theorem dX7_lay_14 : decode cX7_lay 14 = .ok (.aload_n 0, 1) := by decide +kernel
theorem dX7_lay_15 : decode cX7_lay 15 = .ok (.getfield 55, 3) := by decide +kernel
theorem dX7_lay_18 : decode cX7_lay 18 = .ok (.iload_n 1, 1) := by decide +kernel
theorem dX7_lay_19 : decode cX7_lay 19 = .ok (.iaload, 1) := by decide +kernel
theorem dX7_lay_20 : decode cX7_lay 20 = .ok (.bipush (-4), 2) := by decide +kernel
theorem dX7_lay_22 : decode cX7_lay 22 = .ok (.if_icmp .ne 6, 3) := by decide +kernel
theorem dX7_lay_25 : decode cX7_lay 25 = .ok (.bipush (-11), 2) := by decide +kernel
theorem dX7_lay_27 : decode cX7_lay 27 = .ok (.ireturn, 1) := by decide +kernel
theorem dX7_lay_28 : decode cX7_lay 28 = .ok (.iload_n 2, 1) := by decide +kernel
theorem dX7_lay_29 : decode cX7_lay 29 = .ok (.i2l, 1) := by decide +kernel
theorem dX7_lay_30 : decode cX7_lay 30 = .ok (.lconst 0, 1) := by decide +kernel
theorem dX7_lay_31 : decode cX7_lay 31 = .ok (.aload_n 0, 1) := by decide +kernel
theorem dX7_lay_32 : decode cX7_lay 32 = .ok (.getfield 58, 3) := by decide +kernel
theorem dX7_lay_35 : decode cX7_lay 35 = .ok (.iload_n 1, 1) := by decide +kernel
theorem dX7_lay_36 : decode cX7_lay 36 = .ok (.iaload, 1) := by decide +kernel
theorem dX7_lay_37 : decode cX7_lay 37 = .ok (.iconst 1, 1) := by decide +kernel
theorem dX7_lay_38 : decode cX7_lay 38 = .ok (.isub, 1) := by decide +kernel
theorem dX7_lay_39 : decode cX7_lay 39 = .ok (.i2l, 1) := by decide +kernel
theorem dX7_lay_40 : decode cX7_lay 40 = .ok (.invokestatic 66, 3) := by decide +kernel
theorem dX7_lay_43 : decode cX7_lay 43 = .ok (.ifCond .ne 6, 3) := by decide +kernel
theorem dX7_lay_46 : decode cX7_lay 46 = .ok (.bipush (-12), 2) := by decide +kernel
theorem dX7_lay_48 : decode cX7_lay 48 = .ok (.ireturn, 1) := by decide +kernel
theorem dX7_lay_49 : decode cX7_lay 49 = .ok (.aload_n 0, 1) := by decide +kernel
theorem dX7_lay_50 : decode cX7_lay 50 = .ok (.getfield 61, 3) := by decide +kernel
theorem dX7_lay_53 : decode cX7_lay 53 = .ok (.bipush 40, 2) := by decide +kernel
theorem dX7_lay_55 : decode cX7_lay 55 = .ok (.iload_n 1, 1) := by decide +kernel
theorem dX7_lay_56 : decode cX7_lay 56 = .ok (.imul, 1) := by decide +kernel
theorem dX7_lay_57 : decode cX7_lay 57 = .ok (.iload_n 2, 1) := by decide +kernel
theorem dX7_lay_58 : decode cX7_lay 58 = .ok (.iadd, 1) := by decide +kernel
theorem dX7_lay_59 : decode cX7_lay 59 = .ok (.aload_n 0, 1) := by decide +kernel
theorem dX7_lay_60 : decode cX7_lay 60 = .ok (.getfield 55, 3) := by decide +kernel
theorem dX7_lay_63 : decode cX7_lay 63 = .ok (.iload_n 1, 1) := by decide +kernel
theorem dX7_lay_64 : decode cX7_lay 64 = .ok (.iaload, 1) := by decide +kernel
theorem dX7_lay_65 : decode cX7_lay 65 = .ok (.ifCond .ne 13, 3) := by decide +kernel
theorem dX7_lay_68 : decode cX7_lay 68 = .ok (.iload_n 3, 1) := by decide +kernel
theorem dX7_lay_69 : decode cX7_lay 69 = .ok (.bipush 24, 2) := by decide +kernel
theorem dX7_lay_71 : decode cX7_lay 71 = .ok (.ishl, 1) := by decide +kernel
theorem dX7_lay_72 : decode cX7_lay 72 = .ok (.bipush 24, 2) := by decide +kernel
theorem dX7_lay_74 : decode cX7_lay 74 = .ok (.ishr, 1) := by decide +kernel
theorem dX7_lay_75 : decode cX7_lay 75 = .ok (.goto 24, 3) := by decide +kernel
theorem dX7_lay_78 : decode cX7_lay 78 = .ok (.aload_n 0, 1) := by decide +kernel
theorem dX7_lay_79 : decode cX7_lay 79 = .ok (.getfield 55, 3) := by decide +kernel
theorem dX7_lay_82 : decode cX7_lay 82 = .ok (.iload_n 1, 1) := by decide +kernel
theorem dX7_lay_83 : decode cX7_lay 83 = .ok (.iaload, 1) := by decide +kernel
theorem dX7_lay_84 : decode cX7_lay 84 = .ok (.iconst 1, 1) := by decide +kernel
theorem dX7_lay_85 : decode cX7_lay 85 = .ok (.if_icmp .ne 13, 3) := by decide +kernel
theorem dX7_lay_88 : decode cX7_lay 88 = .ok (.iload_n 3, 1) := by decide +kernel
theorem dX7_lay_89 : decode cX7_lay 89 = .ok (.bipush 16, 2) := by decide +kernel
theorem dX7_lay_91 : decode cX7_lay 91 = .ok (.ishl, 1) := by decide +kernel
theorem dX7_lay_92 : decode cX7_lay 92 = .ok (.bipush 16, 2) := by decide +kernel
theorem dX7_lay_94 : decode cX7_lay 94 = .ok (.ishr, 1) := by decide +kernel
theorem dX7_lay_95 : decode cX7_lay 95 = .ok (.goto 4, 3) := by decide +kernel
theorem dX7_lay_98 : decode cX7_lay 98 = .ok (.iload_n 3, 1) := by decide +kernel
theorem dX7_lay_99 : decode cX7_lay 99 = .ok (.iastore, 1) := by decide +kernel
theorem dX7_lay_100 : decode cX7_lay 100 = .ok (.iconst 1, 1) := by decide +kernel
theorem dX7_lay_101 : decode cX7_lay 101 = .ok (.ireturn, 1) := by decide +kernel
theorem dX7_read_0 : decode cX7_read 0 = .ok (.iload_n 1, 1) := by decide +kernel
theorem dX7_read_1 : decode cX7_read 1 = .ok (.i2l, 1) := by decide +kernel
theorem dX7_read_2 : decode cX7_read 2 = .ok (.lconst 0, 1) := by decide +kernel
theorem dX7_read_3 : decode cX7_read 3 = .ok (.ldc2_w 249, 3) := by decide +kernel
theorem dX7_read_6 : decode cX7_read 6 = .ok (.invokestatic 66, 3) := by decide +kernel
theorem dX7_read_9 : decode cX7_read 9 = .ok (.ifCond .eq 28, 3) := by decide +kernel
theorem dX7_read_12 : decode cX7_read 12 = .ok (.iload_n 2, 1) := by decide +kernel
theorem dX7_read_13 : decode cX7_read 13 = .ok (.i2l, 1) := by decide +kernel
theorem dX7_read_14 : decode cX7_read 14 = .ok (.lconst 0, 1) := by decide +kernel
theorem dX7_read_15 : decode cX7_read 15 = .ok (.ldc2_w 222, 3) := by decide +kernel
theorem dX7_read_18 : decode cX7_read 18 = .ok (.invokestatic 66, 3) := by decide +kernel
theorem dX7_read_21 : decode cX7_read 21 = .ok (.ifCond .eq 16, 3) := by decide +kernel
theorem dX7_read_24 : decode cX7_read 24 = .ok (.iload 4, 2) := by decide +kernel
theorem dX7_read_26 : decode cX7_read 26 = .ok (.i2l, 1) := by decide +kernel
theorem dX7_read_27 : decode cX7_read 27 = .ok (.lconst 0, 1) := by decide +kernel
theorem dX7_read_28 : decode cX7_read 28 = .ok (.ldc2_w 292, 3) := by decide +kernel
theorem dX7_read_31 : decode cX7_read 31 = .ok (.invokestatic 66, 3) := by decide +kernel
theorem dX7_read_34 : decode cX7_read 34 = .ok (.ifCond .ne 5, 3) := by decide +kernel
theorem dX7_read_37 : decode cX7_read 37 = .ok (.iconst (-1), 1) := by decide +kernel
theorem dX7_read_38 : decode cX7_read 38 = .ok (.ireturn, 1) := by decide +kernel
theorem dX7_read_39 : decode cX7_read 39 = .ok (.aload_n 0, 1) := by decide +kernel
theorem dX7_read_40 : decode cX7_read 40 = .ok (.iconst 0, 1) := by decide +kernel
theorem dX7_read_41 : decode cX7_read 41 = .ok (.sipush 316, 3) := by decide +kernel
theorem dX7_read_44 : decode cX7_read 44 = .ok (.invokevirtual 145, 3) := by decide +kernel
theorem dX7_read_47 : decode cX7_read 47 = .ok (.iconst 0, 1) := by decide +kernel
theorem dX7_read_48 : decode cX7_read 48 = .ok (.istore 5, 2) := by decide +kernel
theorem dX7_read_50 : decode cX7_read 50 = .ok (.iconst 0, 1) := by decide +kernel
theorem dX7_read_51 : decode cX7_read 51 = .ok (.istore 6, 2) := by decide +kernel
theorem dX7_read_53 : decode cX7_read 53 = .ok (.iconst 0, 1) := by decide +kernel
theorem dX7_read_54 : decode cX7_read 54 = .ok (.istore 7, 2) := by decide +kernel
theorem dX7_read_56 : decode cX7_read 56 = .ok (.iload 7, 2) := by decide +kernel
theorem dX7_read_58 : decode cX7_read 58 = .ok (.iconst 2, 1) := by decide +kernel
theorem dX7_read_59 : decode cX7_read 59 = .ok (.iload 4, 2) := by decide +kernel
theorem dX7_read_61 : decode cX7_read 61 = .ok (.imul, 1) := by decide +kernel
theorem dX7_read_62 : decode cX7_read 62 = .ok (.if_icmp .ge 163, 3) := by decide +kernel
theorem dX7_read_65 : decode cX7_read 65 = .ok (.iload 5, 2) := by decide +kernel
theorem dX7_read_67 : decode cX7_read 67 = .ok (.ifCond .ne 158, 3) := by decide +kernel
theorem dX7_read_70 : decode cX7_read 70 = .ok (.iload_n 3, 1) := by decide +kernel
theorem dX7_read_71 : decode cX7_read 71 = .ok (.i2l, 1) := by decide +kernel
theorem dX7_read_72 : decode cX7_read 72 = .ok (.iload 7, 2) := by decide +kernel
theorem dX7_read_74 : decode cX7_read 74 = .ok (.i2l, 1) := by decide +kernel
theorem dX7_read_75 : decode cX7_read 75 = .ok (.ladd, 1) := by decide +kernel
theorem dX7_read_76 : decode cX7_read 76 = .ok (.lstore 8, 2) := by decide +kernel
theorem dX7_read_78 : decode cX7_read 78 = .ok (.aload_n 0, 1) := by decide +kernel
theorem dX7_read_79 : decode cX7_read 79 = .ok (.getfield 55, 3) := by decide +kernel
theorem dX7_read_82 : decode cX7_read 82 = .ok (.iload_n 1, 1) := by decide +kernel
theorem dX7_read_83 : decode cX7_read 83 = .ok (.iaload, 1) := by decide +kernel
theorem dX7_read_84 : decode cX7_read 84 = .ok (.bipush (-4), 2) := by decide +kernel
theorem dX7_read_86 : decode cX7_read 86 = .ok (.if_icmp .ne 7, 3) := by decide +kernel
theorem dX7_read_89 : decode cX7_read 89 = .ok (.iconst 1, 1) := by decide +kernel
theorem dX7_read_90 : decode cX7_read 90 = .ok (.goto 40, 3) := by decide +kernel
theorem dX7_read_93 : decode cX7_read 93 = .ok (.aload_n 0, 1) := by decide +kernel
theorem dX7_read_94 : decode cX7_read 94 = .ok (.getfield 55, 3) := by decide +kernel
theorem dX7_read_97 : decode cX7_read 97 = .ok (.iload_n 1, 1) := by decide +kernel
theorem dX7_read_98 : decode cX7_read 98 = .ok (.iaload, 1) := by decide +kernel
theorem dX7_read_99 : decode cX7_read 99 = .ok (.iload_n 2, 1) := by decide +kernel
theorem dX7_read_100 : decode cX7_read 100 = .ok (.if_icmp .eq 7, 3) := by decide +kernel
theorem dX7_read_103 : decode cX7_read 103 = .ok (.iconst 3, 1) := by decide +kernel
theorem dX7_read_104 : decode cX7_read 104 = .ok (.goto 26, 3) := by decide +kernel
theorem dX7_read_107 : decode cX7_read 107 = .ok (.lload 8, 2) := by decide +kernel
theorem dX7_read_109 : decode cX7_read 109 = .ok (.lconst 0, 1) := by decide +kernel
theorem dX7_read_110 : decode cX7_read 110 = .ok (.aload_n 0, 1) := by decide +kernel
theorem dX7_read_111 : decode cX7_read 111 = .ok (.getfield 58, 3) := by decide +kernel
theorem dX7_read_114 : decode cX7_read 114 = .ok (.iload_n 1, 1) := by decide +kernel
theorem dX7_read_115 : decode cX7_read 115 = .ok (.iaload, 1) := by decide +kernel
theorem dX7_read_116 : decode cX7_read 116 = .ok (.iconst 1, 1) := by decide +kernel
theorem dX7_read_117 : decode cX7_read 117 = .ok (.isub, 1) := by decide +kernel
theorem dX7_read_118 : decode cX7_read 118 = .ok (.i2l, 1) := by decide +kernel
theorem dX7_read_119 : decode cX7_read 119 = .ok (.invokestatic 66, 3) := by decide +kernel
theorem dX7_read_122 : decode cX7_read 122 = .ok (.ifCond .ne 7, 3) := by decide +kernel
theorem dX7_read_125 : decode cX7_read 125 = .ok (.iconst 2, 1) := by decide +kernel
theorem dX7_read_126 : decode cX7_read 126 = .ok (.goto 4, 3) := by decide +kernel
theorem dX7_read_129 : decode cX7_read 129 = .ok (.iconst 0, 1) := by decide +kernel
theorem dX7_read_130 : decode cX7_read 130 = .ok (.istore 5, 2) := by decide +kernel
theorem dX7_read_132 : decode cX7_read 132 = .ok (.iload 5, 2) := by decide +kernel
theorem dX7_read_134 : decode cX7_read 134 = .ok (.ifCond .ne 85, 3) := by decide +kernel
theorem dX7_read_137 : decode cX7_read 137 = .ok (.iload 7, 2) := by decide +kernel
theorem dX7_read_139 : decode cX7_read 139 = .ok (.iconst 2, 1) := by decide +kernel
theorem dX7_read_140 : decode cX7_read 140 = .ok (.irem, 1) := by decide +kernel
theorem dX7_read_141 : decode cX7_read 141 = .ok (.iconst 1, 1) := by decide +kernel
theorem dX7_read_142 : decode cX7_read 142 = .ok (.if_icmp .ne 77, 3) := by decide +kernel
theorem dX7_read_145 : decode cX7_read 145 = .ok (.bipush 40, 2) := by decide +kernel
theorem dX7_read_147 : decode cX7_read 147 = .ok (.iload_n 1, 1) := by decide +kernel
theorem dX7_read_148 : decode cX7_read 148 = .ok (.imul, 1) := by decide +kernel
theorem dX7_read_149 : decode cX7_read 149 = .ok (.lload 8, 2) := by decide +kernel
theorem dX7_read_151 : decode cX7_read 151 = .ok (.l2i, 1) := by decide +kernel
theorem dX7_read_152 : decode cX7_read 152 = .ok (.iadd, 1) := by decide +kernel
theorem dX7_read_153 : decode cX7_read 153 = .ok (.istore 10, 2) := by decide +kernel
theorem dX7_read_155 : decode cX7_read 155 = .ok (.aload_n 0, 1) := by decide +kernel
theorem dX7_read_156 : decode cX7_read 156 = .ok (.aload_n 0, 1) := by decide +kernel
theorem dX7_read_157 : decode cX7_read 157 = .ok (.getfield 61, 3) := by decide +kernel
theorem dX7_read_160 : decode cX7_read 160 = .ok (.iload 10, 2) := by decide +kernel
theorem dX7_read_162 : decode cX7_read 162 = .ok (.iconst 1, 1) := by decide +kernel
theorem dX7_read_163 : decode cX7_read 163 = .ok (.isub, 1) := by decide +kernel
theorem dX7_read_164 : decode cX7_read 164 = .ok (.iaload, 1) := by decide +kernel
theorem dX7_read_165 : decode cX7_read 165 = .ok (.aload_n 0, 1) := by decide +kernel
theorem dX7_read_166 : decode cX7_read 166 = .ok (.getfield 61, 3) := by decide +kernel
theorem dX7_read_169 : decode cX7_read 169 = .ok (.iload 10, 2) := by decide +kernel
theorem dX7_read_171 : decode cX7_read 171 = .ok (.iaload, 1) := by decide +kernel
theorem dX7_read_172 : decode cX7_read 172 = .ok (.invokevirtual 275, 3) := by decide +kernel
theorem dX7_read_175 : decode cX7_read 175 = .ok (.ifCond .ne 17, 3) := by decide +kernel
theorem dX7_read_178 : decode cX7_read 178 = .ok (.aload_n 0, 1) := by decide +kernel
theorem dX7_read_179 : decode cX7_read 179 = .ok (.sipush 316, 3) := by decide +kernel
theorem dX7_read_182 : decode cX7_read 182 = .ok (.iconst 0, 1) := by decide +kernel
theorem dX7_read_183 : decode cX7_read 183 = .ok (.invokevirtual 145, 3) := by decide +kernel
theorem dX7_read_186 : decode cX7_read 186 = .ok (.bipush (-20), 2) := by decide +kernel
theorem dX7_read_188 : decode cX7_read 188 = .ok (.iload 6, 2) := by decide +kernel
theorem dX7_read_190 : decode cX7_read 190 = .ok (.isub, 1) := by decide +kernel
theorem dX7_read_191 : decode cX7_read 191 = .ok (.ireturn, 1) := by decide +kernel
theorem dX7_read_192 : decode cX7_read 192 = .ok (.aload_n 0, 1) := by decide +kernel
theorem dX7_read_193 : decode cX7_read 193 = .ok (.getfield 7, 3) := by decide +kernel
theorem dX7_read_196 : decode cX7_read 196 = .ok (.bipush 6, 2) := by decide +kernel
theorem dX7_read_198 : decode cX7_read 198 = .ok (.aload_n 0, 1) := by decide +kernel
theorem dX7_read_199 : decode cX7_read 199 = .ok (.getfield 61, 3) := by decide +kernel
theorem dX7_read_202 : decode cX7_read 202 = .ok (.iload 10, 2) := by decide +kernel
theorem dX7_read_204 : decode cX7_read 204 = .ok (.iconst 1, 1) := by decide +kernel
theorem dX7_read_205 : decode cX7_read 205 = .ok (.isub, 1) := by decide +kernel
theorem dX7_read_206 : decode cX7_read 206 = .ok (.iaload, 1) := by decide +kernel
theorem dX7_read_207 : decode cX7_read 207 = .ok (.iadd, 1) := by decide +kernel
theorem dX7_read_208 : decode cX7_read 208 = .ok (.aload_n 0, 1) := by decide +kernel
theorem dX7_read_209 : decode cX7_read 209 = .ok (.getfield 61, 3) := by decide +kernel
theorem dX7_read_212 : decode cX7_read 212 = .ok (.iload 10, 2) := by decide +kernel
theorem dX7_read_214 : decode cX7_read 214 = .ok (.iaload, 1) := by decide +kernel
theorem dX7_read_215 : decode cX7_read 215 = .ok (.iastore, 1) := by decide +kernel
theorem dX7_read_216 : decode cX7_read 216 = .ok (.iinc 6 1, 3) := by decide +kernel
theorem dX7_read_219 : decode cX7_read 219 = .ok (.iinc 7 1, 3) := by decide +kernel
theorem dX7_read_222 : decode cX7_read 222 = .ok (.goto (-166), 3) := by decide +kernel
theorem dX7_read_225 : decode cX7_read 225 = .ok (.iload 6, 2) := by decide +kernel
theorem dX7_read_227 : decode cX7_read 227 = .ok (.ifCond .le 8, 3) := by decide +kernel
theorem dX7_read_230 : decode cX7_read 230 = .ok (.aload_n 0, 1) := by decide +kernel
theorem dX7_read_231 : decode cX7_read 231 = .ok (.invokevirtual 149, 3) := by decide +kernel
theorem dX7_read_234 : decode cX7_read 234 = .ok (.pop, 1) := by decide +kernel
theorem dX7_read_235 : decode cX7_read 235 = .ok (.aload_n 0, 1) := by decide +kernel
theorem dX7_read_236 : decode cX7_read 236 = .ok (.iload 5, 2) := by decide +kernel
theorem dX7_read_238 : decode cX7_read 238 = .ok (.putfield 294, 3) := by decide +kernel
theorem dX7_read_241 : decode cX7_read 241 = .ok (.iload 6, 2) := by decide +kernel
theorem dX7_read_243 : decode cX7_read 243 = .ok (.ireturn, 1) := by decide +kernel
theorem dX7_torn_0 : decode cX7_torn 0 = .ok (.aload_n 0, 1) := by decide +kernel
theorem dX7_torn_1 : decode cX7_torn 1 = .ok (.getfield 294, 3) := by decide +kernel
theorem dX7_torn_4 : decode cX7_torn 4 = .ok (.ireturn, 1) := by decide +kernel
theorem dX7_bare_0 : decode cX7_bare 0 = .ok (.iconst 0, 1) := by decide +kernel
theorem dX7_bare_1 : decode cX7_bare 1 = .ok (.istore_n 1, 1) := by decide +kernel
theorem dX7_bare_2 : decode cX7_bare 2 = .ok (.iconst 0, 1) := by decide +kernel
theorem dX7_bare_3 : decode cX7_bare 3 = .ok (.istore_n 2, 1) := by decide +kernel
theorem dX7_bare_4 : decode cX7_bare 4 = .ok (.iload_n 2, 1) := by decide +kernel
theorem dX7_bare_5 : decode cX7_bare 5 = .ok (.aload_n 0, 1) := by decide +kernel
theorem dX7_bare_6 : decode cX7_bare 6 = .ok (.invokevirtual 183, 3) := by decide +kernel
theorem dX7_bare_9 : decode cX7_bare 9 = .ok (.if_icmp .ge 25, 3) := by decide +kernel
theorem dX7_bare_12 : decode cX7_bare 12 = .ok (.iload_n 1, 1) := by decide +kernel
theorem dX7_bare_13 : decode cX7_bare 13 = .ok (.aload_n 0, 1) := by decide +kernel
theorem dX7_bare_14 : decode cX7_bare 14 = .ok (.iload_n 2, 1) := by decide +kernel
theorem dX7_bare_15 : decode cX7_bare 15 = .ok (.invokevirtual 174, 3) := by decide +kernel
theorem dX7_bare_18 : decode cX7_bare 18 = .ok (.ifCond .ne 7, 3) := by decide +kernel
theorem dX7_bare_21 : decode cX7_bare 21 = .ok (.iconst 1, 1) := by decide +kernel
theorem dX7_bare_22 : decode cX7_bare 22 = .ok (.goto 4, 3) := by decide +kernel
theorem dX7_bare_25 : decode cX7_bare 25 = .ok (.iconst 0, 1) := by decide +kernel
theorem dX7_bare_26 : decode cX7_bare 26 = .ok (.iadd, 1) := by decide +kernel
theorem dX7_bare_27 : decode cX7_bare 27 = .ok (.istore_n 1, 1) := by decide +kernel
theorem dX7_bare_28 : decode cX7_bare 28 = .ok (.iinc 2 1, 3) := by decide +kernel
theorem dX7_bare_31 : decode cX7_bare 31 = .ok (.goto (-27), 3) := by decide +kernel
theorem dX7_bare_34 : decode cX7_bare 34 = .ok (.iload_n 1, 1) := by decide +kernel
theorem dX7_bare_35 : decode cX7_bare 35 = .ok (.ireturn, 1) := by decide +kernel
theorem dX7_count_0 : decode cX7_count 0 = .ok (.iload_n 1, 1) := by decide +kernel
theorem dX7_count_1 : decode cX7_count 1 = .ok (.tableswitch 94 0 3 #[31, 61, 66, 89], 31) := by decide +kernel
theorem dX7_count_32 : decode cX7_count 32 = .ok (.aload_n 0, 1) := by decide +kernel
theorem dX7_count_33 : decode cX7_count 33 = .ok (.getfield 51, 3) := by decide +kernel
theorem dX7_count_36 : decode cX7_count 36 = .ok (.iconst 0, 1) := by decide +kernel
theorem dX7_count_37 : decode cX7_count 37 = .ok (.baload, 1) := by decide +kernel
theorem dX7_count_38 : decode cX7_count 38 = .ok (.ifCond .eq 7, 3) := by decide +kernel
theorem dX7_count_41 : decode cX7_count 41 = .ok (.iconst 1, 1) := by decide +kernel
theorem dX7_count_42 : decode cX7_count 42 = .ok (.goto 4, 3) := by decide +kernel
theorem dX7_count_45 : decode cX7_count 45 = .ok (.iconst 0, 1) := by decide +kernel
theorem dX7_count_46 : decode cX7_count 46 = .ok (.aload_n 0, 1) := by decide +kernel
theorem dX7_count_47 : decode cX7_count 47 = .ok (.getfield 51, 3) := by decide +kernel
theorem dX7_count_50 : decode cX7_count 50 = .ok (.iconst 1, 1) := by decide +kernel
theorem dX7_count_51 : decode cX7_count 51 = .ok (.baload, 1) := by decide +kernel
theorem dX7_count_52 : decode cX7_count 52 = .ok (.ifCond .eq 7, 3) := by decide +kernel
theorem dX7_count_55 : decode cX7_count 55 = .ok (.iconst 1, 1) := by decide +kernel
theorem dX7_count_56 : decode cX7_count 56 = .ok (.goto 4, 3) := by decide +kernel
theorem dX7_count_59 : decode cX7_count 59 = .ok (.iconst 0, 1) := by decide +kernel
theorem dX7_count_60 : decode cX7_count 60 = .ok (.iadd, 1) := by decide +kernel
theorem dX7_count_61 : decode cX7_count 61 = .ok (.ireturn, 1) := by decide +kernel
theorem dX7_count_62 : decode cX7_count 62 = .ok (.aload_n 0, 1) := by decide +kernel
theorem dX7_count_63 : decode cX7_count 63 = .ok (.getfield 70, 3) := by decide +kernel
theorem dX7_count_66 : decode cX7_count 66 = .ok (.ireturn, 1) := by decide +kernel
theorem dX7_count_67 : decode cX7_count 67 = .ok (.aload_n 0, 1) := by decide +kernel
theorem dX7_count_68 : decode cX7_count 68 = .ok (.getfield 55, 3) := by decide +kernel
theorem dX7_count_71 : decode cX7_count 71 = .ok (.iconst 0, 1) := by decide +kernel
theorem dX7_count_72 : decode cX7_count 72 = .ok (.iaload, 1) := by decide +kernel
theorem dX7_count_73 : decode cX7_count 73 = .ok (.bipush (-4), 2) := by decide +kernel
theorem dX7_count_75 : decode cX7_count 75 = .ok (.if_icmp .ne 8, 3) := by decide +kernel
theorem dX7_count_78 : decode cX7_count 78 = .ok (.bipush (-4), 2) := by decide +kernel
theorem dX7_count_80 : decode cX7_count 80 = .ok (.goto 9, 3) := by decide +kernel
theorem dX7_count_83 : decode cX7_count 83 = .ok (.aload_n 0, 1) := by decide +kernel
theorem dX7_count_84 : decode cX7_count 84 = .ok (.getfield 58, 3) := by decide +kernel
theorem dX7_count_87 : decode cX7_count 87 = .ok (.iconst 0, 1) := by decide +kernel
theorem dX7_count_88 : decode cX7_count 88 = .ok (.iaload, 1) := by decide +kernel
theorem dX7_count_89 : decode cX7_count 89 = .ok (.ireturn, 1) := by decide +kernel
theorem dX7_count_90 : decode cX7_count 90 = .ok (.aload_n 0, 1) := by decide +kernel
theorem dX7_count_91 : decode cX7_count 91 = .ok (.invokevirtual 297, 3) := by decide +kernel
theorem dX7_count_94 : decode cX7_count 94 = .ok (.ireturn, 1) := by decide +kernel
theorem dX7_count_95 : decode cX7_count 95 = .ok (.iconst (-1), 1) := by decide +kernel
theorem dX7_count_96 : decode cX7_count 96 = .ok (.ireturn, 1) := by decide +kernel
theorem dJ9_floorDiv_f86c9_0 : decode cJ9_floorDiv_f86c9 0 = .ok (.lload_n 0, 1) := by decide +kernel
theorem dJ9_floorDiv_f86c9_1 : decode cJ9_floorDiv_f86c9 1 = .ok (.lload_n 2, 1) := by decide +kernel
theorem dJ9_floorDiv_f86c9_2 : decode cJ9_floorDiv_f86c9 2 = .ok (.ldiv, 1) := by decide +kernel
theorem dJ9_floorDiv_f86c9_3 : decode cJ9_floorDiv_f86c9 3 = .ok (.lstore 4, 2) := by decide +kernel
theorem dJ9_floorDiv_f86c9_5 : decode cJ9_floorDiv_f86c9 5 = .ok (.lload_n 0, 1) := by decide +kernel
theorem dJ9_floorDiv_f86c9_6 : decode cJ9_floorDiv_f86c9 6 = .ok (.lload_n 2, 1) := by decide +kernel
theorem dJ9_floorDiv_f86c9_7 : decode cJ9_floorDiv_f86c9 7 = .ok (.lxor, 1) := by decide +kernel
theorem dJ9_floorDiv_f86c9_8 : decode cJ9_floorDiv_f86c9 8 = .ok (.lconst 0, 1) := by decide +kernel
theorem dJ9_floorDiv_f86c9_9 : decode cJ9_floorDiv_f86c9 9 = .ok (.lcmp, 1) := by decide +kernel
theorem dJ9_floorDiv_f86c9_10 : decode cJ9_floorDiv_f86c9 10 = .ok (.ifCond .ge 17, 3) := by decide +kernel
theorem dJ9_floorDiv_f86c9_13 : decode cJ9_floorDiv_f86c9 13 = .ok (.lload 4, 2) := by decide +kernel
theorem dJ9_floorDiv_f86c9_15 : decode cJ9_floorDiv_f86c9 15 = .ok (.lload_n 2, 1) := by decide +kernel
theorem dJ9_floorDiv_f86c9_16 : decode cJ9_floorDiv_f86c9 16 = .ok (.lmul, 1) := by decide +kernel
theorem dJ9_floorDiv_f86c9_17 : decode cJ9_floorDiv_f86c9 17 = .ok (.lload_n 0, 1) := by decide +kernel
theorem dJ9_floorDiv_f86c9_18 : decode cJ9_floorDiv_f86c9 18 = .ok (.lcmp, 1) := by decide +kernel
theorem dJ9_floorDiv_f86c9_19 : decode cJ9_floorDiv_f86c9 19 = .ok (.ifCond .eq 8, 3) := by decide +kernel
theorem dJ9_floorDiv_f86c9_22 : decode cJ9_floorDiv_f86c9 22 = .ok (.lload 4, 2) := by decide +kernel
theorem dJ9_floorDiv_f86c9_24 : decode cJ9_floorDiv_f86c9 24 = .ok (.lconst 1, 1) := by decide +kernel
theorem dJ9_floorDiv_f86c9_25 : decode cJ9_floorDiv_f86c9 25 = .ok (.lsub, 1) := by decide +kernel
theorem dJ9_floorDiv_f86c9_26 : decode cJ9_floorDiv_f86c9 26 = .ok (.lreturn, 1) := by decide +kernel
theorem dJ9_floorDiv_f86c9_27 : decode cJ9_floorDiv_f86c9 27 = .ok (.lload 4, 2) := by decide +kernel
theorem dJ9_floorDiv_f86c9_29 : decode cJ9_floorDiv_f86c9 29 = .ok (.lreturn, 1) := by decide +kernel
theorem dJ9_abs_0f7a4_0 : decode cJ9_abs_0f7a4 0 = .ok (.iload_n 0, 1) := by decide +kernel
theorem dJ9_abs_0f7a4_1 : decode cJ9_abs_0f7a4 1 = .ok (.ifCond .ge 8, 3) := by decide +kernel
theorem dJ9_abs_0f7a4_4 : decode cJ9_abs_0f7a4 4 = .ok (.iload_n 0, 1) := by decide +kernel
theorem dJ9_abs_0f7a4_5 : decode cJ9_abs_0f7a4 5 = .ok (.ineg, 1) := by decide +kernel
theorem dJ9_abs_0f7a4_6 : decode cJ9_abs_0f7a4 6 = .ok (.goto 4, 3) := by decide +kernel
theorem dJ9_abs_0f7a4_9 : decode cJ9_abs_0f7a4 9 = .ok (.iload_n 0, 1) := by decide +kernel
theorem dJ9_abs_0f7a4_10 : decode cJ9_abs_0f7a4 10 = .ok (.ireturn, 1) := by decide +kernel
theorem dJ0_length_8abf5_0 : decode cJ0_length_8abf5 0 = .ok (.aload_n 0, 1) := by decide +kernel
theorem dJ0_length_8abf5_1 : decode cJ0_length_8abf5 1 = .ok (.getfield 9, 3) := by decide +kernel
theorem dJ0_length_8abf5_4 : decode cJ0_length_8abf5 4 = .ok (.arraylength, 1) := by decide +kernel
theorem dJ0_length_8abf5_5 : decode cJ0_length_8abf5 5 = .ok (.aload_n 0, 1) := by decide +kernel
theorem dJ0_length_8abf5_6 : decode cJ0_length_8abf5 6 = .ok (.invokevirtual 335, 3) := by decide +kernel
theorem dJ0_length_8abf5_9 : decode cJ0_length_8abf5 9 = .ok (.ishr, 1) := by decide +kernel
theorem dJ0_length_8abf5_10 : decode cJ0_length_8abf5 10 = .ok (.ireturn, 1) := by decide +kernel
theorem dJ0_charAt_5068e_0 : decode cJ0_charAt_5068e 0 = .ok (.aload_n 0, 1) := by decide +kernel
theorem dJ0_charAt_5068e_1 : decode cJ0_charAt_5068e 1 = .ok (.invokevirtual 492, 3) := by decide +kernel
theorem dJ0_charAt_5068e_4 : decode cJ0_charAt_5068e 4 = .ok (.ifCond .eq 12, 3) := by decide +kernel
theorem dJ0_charAt_5068e_7 : decode cJ0_charAt_5068e 7 = .ok (.aload_n 0, 1) := by decide +kernel
theorem dJ0_charAt_5068e_8 : decode cJ0_charAt_5068e 8 = .ok (.getfield 9, 3) := by decide +kernel
theorem dJ0_charAt_5068e_11 : decode cJ0_charAt_5068e 11 = .ok (.iload_n 1, 1) := by decide +kernel
theorem dJ0_charAt_5068e_12 : decode cJ0_charAt_5068e 12 = .ok (.invokestatic 495, 3) := by decide +kernel
theorem dJ0_charAt_5068e_15 : decode cJ0_charAt_5068e 15 = .ok (.ireturn, 1) := by decide +kernel
theorem dJ0_charAt_5068e_16 : decode cJ0_charAt_5068e 16 = .ok (.aload_n 0, 1) := by decide +kernel
theorem dJ0_charAt_5068e_17 : decode cJ0_charAt_5068e 17 = .ok (.getfield 9, 3) := by decide +kernel
theorem dJ0_charAt_5068e_20 : decode cJ0_charAt_5068e 20 = .ok (.iload_n 1, 1) := by decide +kernel
theorem dJ0_charAt_5068e_21 : decode cJ0_charAt_5068e 21 = .ok (.invokestatic 498, 3) := by decide +kernel
theorem dJ0_charAt_5068e_24 : decode cJ0_charAt_5068e 24 = .ok (.ireturn, 1) := by decide +kernel
theorem dJ0_coder_7d493_0 : decode cJ0_coder_7d493 0 = .ok (.getstatic 38, 3) := by decide +kernel
theorem dJ0_coder_7d493_3 : decode cJ0_coder_7d493 3 = .ok (.ifCond .eq 10, 3) := by decide +kernel
theorem dJ0_coder_7d493_6 : decode cJ0_coder_7d493 6 = .ok (.aload_n 0, 1) := by decide +kernel
theorem dJ0_coder_7d493_7 : decode cJ0_coder_7d493 7 = .ok (.getfield 15, 3) := by decide +kernel
theorem dJ0_coder_7d493_10 : decode cJ0_coder_7d493 10 = .ok (.goto 4, 3) := by decide +kernel
theorem dJ0_coder_7d493_13 : decode cJ0_coder_7d493 13 = .ok (.iconst 1, 1) := by decide +kernel
theorem dJ0_coder_7d493_14 : decode cJ0_coder_7d493 14 = .ok (.ireturn, 1) := by decide +kernel
theorem dJ0_isLatin1_aae02_0 : decode cJ0_isLatin1_aae02 0 = .ok (.getstatic 38, 3) := by decide +kernel
theorem dJ0_isLatin1_aae02_3 : decode cJ0_isLatin1_aae02 3 = .ok (.ifCond .eq 14, 3) := by decide +kernel
theorem dJ0_isLatin1_aae02_6 : decode cJ0_isLatin1_aae02 6 = .ok (.aload_n 0, 1) := by decide +kernel
theorem dJ0_isLatin1_aae02_7 : decode cJ0_isLatin1_aae02 7 = .ok (.getfield 15, 3) := by decide +kernel
theorem dJ0_isLatin1_aae02_10 : decode cJ0_isLatin1_aae02 10 = .ok (.ifCond .ne 7, 3) := by decide +kernel
theorem dJ0_isLatin1_aae02_13 : decode cJ0_isLatin1_aae02 13 = .ok (.iconst 1, 1) := by decide +kernel
theorem dJ0_isLatin1_aae02_14 : decode cJ0_isLatin1_aae02 14 = .ok (.goto 4, 3) := by decide +kernel
theorem dJ0_isLatin1_aae02_17 : decode cJ0_isLatin1_aae02 17 = .ok (.iconst 0, 1) := by decide +kernel
theorem dJ0_isLatin1_aae02_18 : decode cJ0_isLatin1_aae02 18 = .ok (.ireturn, 1) := by decide +kernel
theorem dJ0_checkIndex_df160_0 : decode cJ0_checkIndex_df160 0 = .ok (.iload_n 0, 1) := by decide +kernel
theorem dJ0_checkIndex_df160_1 : decode cJ0_checkIndex_df160 1 = .ok (.iload_n 1, 1) := by decide +kernel
theorem dJ0_checkIndex_df160_2 : decode cJ0_checkIndex_df160 2 = .ok (.getstatic 1053, 3) := by decide +kernel
theorem dJ0_checkIndex_df160_5 : decode cJ0_checkIndex_df160 5 = .ok (.invokestatic 1059, 3) := by decide +kernel
theorem dJ0_checkIndex_df160_8 : decode cJ0_checkIndex_df160 8 = .ok (.pop, 1) := by decide +kernel
theorem dJ0_checkIndex_df160_9 : decode cJ0_checkIndex_df160 9 = .ok (.return_, 1) := by decide +kernel
theorem dJ1_charAt_3b067_0 : decode cJ1_charAt_3b067 0 = .ok (.iload_n 1, 1) := by decide +kernel
theorem dJ1_charAt_3b067_1 : decode cJ1_charAt_3b067 1 = .ok (.aload_n 0, 1) := by decide +kernel
theorem dJ1_charAt_3b067_2 : decode cJ1_charAt_3b067 2 = .ok (.arraylength, 1) := by decide +kernel
theorem dJ1_charAt_3b067_3 : decode cJ1_charAt_3b067 3 = .ok (.invokestatic 9, 3) := by decide +kernel
theorem dJ1_charAt_3b067_6 : decode cJ1_charAt_3b067 6 = .ok (.aload_n 0, 1) := by decide +kernel
theorem dJ1_charAt_3b067_7 : decode cJ1_charAt_3b067 7 = .ok (.iload_n 1, 1) := by decide +kernel
theorem dJ1_charAt_3b067_8 : decode cJ1_charAt_3b067 8 = .ok (.baload, 1) := by decide +kernel
theorem dJ1_charAt_3b067_9 : decode cJ1_charAt_3b067 9 = .ok (.sipush 255, 3) := by decide +kernel
theorem dJ1_charAt_3b067_12 : decode cJ1_charAt_3b067 12 = .ok (.iand, 1) := by decide +kernel
theorem dJ1_charAt_3b067_13 : decode cJ1_charAt_3b067 13 = .ok (.i2c, 1) := by decide +kernel
theorem dJ1_charAt_3b067_14 : decode cJ1_charAt_3b067 14 = .ok (.ireturn, 1) := by decide +kernel
theorem dJ2_getChar_3b067_0 : decode cJ2_getChar_3b067 0 = .ok (.getstatic 44, 3) := by decide +kernel
theorem dJ2_getChar_3b067_3 : decode cJ2_getChar_3b067 3 = .ok (.ifCond .ne 25, 3) := by decide +kernel
theorem dJ2_getChar_3b067_6 : decode cJ2_getChar_3b067 6 = .ok (.iload_n 1, 1) := by decide +kernel
theorem dJ2_getChar_3b067_7 : decode cJ2_getChar_3b067 7 = .ok (.ifCond .lt 11, 3) := by decide +kernel
theorem dJ2_getChar_3b067_10 : decode cJ2_getChar_3b067 10 = .ok (.iload_n 1, 1) := by decide +kernel
theorem dJ2_getChar_3b067_11 : decode cJ2_getChar_3b067 11 = .ok (.aload_n 0, 1) := by decide +kernel
theorem dJ2_getChar_3b067_12 : decode cJ2_getChar_3b067 12 = .ok (.invokestatic 48, 3) := by decide +kernel
theorem dJ2_getChar_3b067_15 : decode cJ2_getChar_3b067 15 = .ok (.if_icmp .lt 13, 3) := by decide +kernel
theorem dJ2_getChar_3b067_18 : decode cJ2_getChar_3b067 18 = .ok (.new 52, 3) := by decide +kernel
theorem dJ2_getChar_3b067_21 : decode cJ2_getChar_3b067 21 = .ok (.dup, 1) := by decide +kernel
theorem dJ2_getChar_3b067_22 : decode cJ2_getChar_3b067 22 = .ok (.ldc 54, 2) := by decide +kernel
theorem dJ2_getChar_3b067_24 : decode cJ2_getChar_3b067 24 = .ok (.invokespecial 56, 3) := by decide +kernel
theorem dJ2_getChar_3b067_27 : decode cJ2_getChar_3b067 27 = .ok (.athrow, 1) := by decide +kernel
theorem dJ2_getChar_3b067_28 : decode cJ2_getChar_3b067 28 = .ok (.iload_n 1, 1) := by decide +kernel
theorem dJ2_getChar_3b067_29 : decode cJ2_getChar_3b067 29 = .ok (.iconst 1, 1) := by decide +kernel
theorem dJ2_getChar_3b067_30 : decode cJ2_getChar_3b067 30 = .ok (.ishl, 1) := by decide +kernel
theorem dJ2_getChar_3b067_31 : decode cJ2_getChar_3b067 31 = .ok (.istore_n 1, 1) := by decide +kernel
theorem dJ2_getChar_3b067_32 : decode cJ2_getChar_3b067 32 = .ok (.aload_n 0, 1) := by decide +kernel
theorem dJ2_getChar_3b067_33 : decode cJ2_getChar_3b067 33 = .ok (.iload_n 1, 1) := by decide +kernel
theorem dJ2_getChar_3b067_34 : decode cJ2_getChar_3b067 34 = .ok (.iinc 1 1, 3) := by decide +kernel
theorem dJ2_getChar_3b067_37 : decode cJ2_getChar_3b067 37 = .ok (.baload, 1) := by decide +kernel
theorem dJ2_getChar_3b067_38 : decode cJ2_getChar_3b067 38 = .ok (.sipush 255, 3) := by decide +kernel
theorem dJ2_getChar_3b067_41 : decode cJ2_getChar_3b067 41 = .ok (.iand, 1) := by decide +kernel
theorem dJ2_getChar_3b067_42 : decode cJ2_getChar_3b067 42 = .ok (.getstatic 59, 3) := by decide +kernel
theorem dJ2_getChar_3b067_45 : decode cJ2_getChar_3b067 45 = .ok (.ishl, 1) := by decide +kernel
theorem dJ2_getChar_3b067_46 : decode cJ2_getChar_3b067 46 = .ok (.aload_n 0, 1) := by decide +kernel
theorem dJ2_getChar_3b067_47 : decode cJ2_getChar_3b067 47 = .ok (.iload_n 1, 1) := by decide +kernel
theorem dJ2_getChar_3b067_48 : decode cJ2_getChar_3b067 48 = .ok (.baload, 1) := by decide +kernel
theorem dJ2_getChar_3b067_49 : decode cJ2_getChar_3b067 49 = .ok (.sipush 255, 3) := by decide +kernel
theorem dJ2_getChar_3b067_52 : decode cJ2_getChar_3b067 52 = .ok (.iand, 1) := by decide +kernel
theorem dJ2_getChar_3b067_53 : decode cJ2_getChar_3b067 53 = .ok (.getstatic 63, 3) := by decide +kernel
theorem dJ2_getChar_3b067_56 : decode cJ2_getChar_3b067 56 = .ok (.ishl, 1) := by decide +kernel
theorem dJ2_getChar_3b067_57 : decode cJ2_getChar_3b067 57 = .ok (.ior, 1) := by decide +kernel
theorem dJ2_getChar_3b067_58 : decode cJ2_getChar_3b067 58 = .ok (.i2c, 1) := by decide +kernel
theorem dJ2_getChar_3b067_59 : decode cJ2_getChar_3b067 59 = .ok (.ireturn, 1) := by decide +kernel
theorem dJ2_length_9d52b_0 : decode cJ2_length_9d52b 0 = .ok (.aload_n 0, 1) := by decide +kernel
theorem dJ2_length_9d52b_1 : decode cJ2_length_9d52b 1 = .ok (.arraylength, 1) := by decide +kernel
theorem dJ2_length_9d52b_2 : decode cJ2_length_9d52b 2 = .ok (.iconst 1, 1) := by decide +kernel
theorem dJ2_length_9d52b_3 : decode cJ2_length_9d52b 3 = .ok (.ishr, 1) := by decide +kernel
theorem dJ2_length_9d52b_4 : decode cJ2_length_9d52b 4 = .ok (.ireturn, 1) := by decide +kernel
theorem dJ2_charAt_3b067_0 : decode cJ2_charAt_3b067 0 = .ok (.iload_n 1, 1) := by decide +kernel
theorem dJ2_charAt_3b067_1 : decode cJ2_charAt_3b067 1 = .ok (.aload_n 0, 1) := by decide +kernel
theorem dJ2_charAt_3b067_2 : decode cJ2_charAt_3b067 2 = .ok (.invokestatic 67, 3) := by decide +kernel
theorem dJ2_charAt_3b067_5 : decode cJ2_charAt_3b067 5 = .ok (.aload_n 0, 1) := by decide +kernel
theorem dJ2_charAt_3b067_6 : decode cJ2_charAt_3b067 6 = .ok (.iload_n 1, 1) := by decide +kernel
theorem dJ2_charAt_3b067_7 : decode cJ2_charAt_3b067 7 = .ok (.invokestatic 71, 3) := by decide +kernel
theorem dJ2_charAt_3b067_10 : decode cJ2_charAt_3b067 10 = .ok (.ireturn, 1) := by decide +kernel
theorem dJ2_checkIndex_2214a_0 : decode cJ2_checkIndex_2214a 0 = .ok (.iload_n 0, 1) := by decide +kernel
theorem dJ2_checkIndex_2214a_1 : decode cJ2_checkIndex_2214a 1 = .ok (.aload_n 1, 1) := by decide +kernel
theorem dJ2_checkIndex_2214a_2 : decode cJ2_checkIndex_2214a 2 = .ok (.invokestatic 48, 3) := by decide +kernel
theorem dJ2_checkIndex_2214a_5 : decode cJ2_checkIndex_2214a 5 = .ok (.invokestatic 414, 3) := by decide +kernel
theorem dJ2_checkIndex_2214a_8 : decode cJ2_checkIndex_2214a 8 = .ok (.return_, 1) := by decide +kernel
theorem dJ3_checkIndex_8e157_0 : decode cJ3_checkIndex_8e157 0 = .ok (.iload_n 0, 1) := by decide +kernel
theorem dJ3_checkIndex_8e157_1 : decode cJ3_checkIndex_8e157 1 = .ok (.ifCond .lt 8, 3) := by decide +kernel
theorem dJ3_checkIndex_8e157_4 : decode cJ3_checkIndex_8e157 4 = .ok (.iload_n 0, 1) := by decide +kernel
theorem dJ3_checkIndex_8e157_5 : decode cJ3_checkIndex_8e157 5 = .ok (.iload_n 1, 1) := by decide +kernel
theorem dJ3_checkIndex_8e157_6 : decode cJ3_checkIndex_8e157 6 = .ok (.if_icmp .lt 10, 3) := by decide +kernel
theorem dJ3_checkIndex_8e157_9 : decode cJ3_checkIndex_8e157 9 = .ok (.aload_n 2, 1) := by decide +kernel
theorem dJ3_checkIndex_8e157_10 : decode cJ3_checkIndex_8e157 10 = .ok (.iload_n 0, 1) := by decide +kernel
theorem dJ3_checkIndex_8e157_11 : decode cJ3_checkIndex_8e157 11 = .ok (.iload_n 1, 1) := by decide +kernel
theorem dJ3_checkIndex_8e157_12 : decode cJ3_checkIndex_8e157 12 = .ok (.invokestatic 95, 3) := by decide +kernel
theorem dJ3_checkIndex_8e157_15 : decode cJ3_checkIndex_8e157 15 = .ok (.athrow, 1) := by decide +kernel
theorem dJ3_checkIndex_8e157_16 : decode cJ3_checkIndex_8e157 16 = .ok (.iload_n 0, 1) := by decide +kernel
theorem dJ3_checkIndex_8e157_17 : decode cJ3_checkIndex_8e157 17 = .ok (.ireturn, 1) := by decide +kernel
theorem dL_law_0 : decode cL_law 0 = .ok (.new 7, 3) := by decide +kernel
theorem dL_law_3 : decode cL_law 3 = .ok (.dup, 1) := by decide +kernel
theorem dL_law_4 : decode cL_law 4 = .ok (.invokespecial 9, 3) := by decide +kernel
theorem dL_law_7 : decode cL_law 7 = .ok (.astore_n 1, 1) := by decide +kernel
theorem dL_law_8 : decode cL_law 8 = .ok (.new 10, 3) := by decide +kernel
theorem dL_law_11 : decode cL_law 11 = .ok (.dup, 1) := by decide +kernel
theorem dL_law_12 : decode cL_law 12 = .ok (.invokespecial 12, 3) := by decide +kernel
theorem dL_law_15 : decode cL_law 15 = .ok (.astore_n 2, 1) := by decide +kernel
theorem dL_law_16 : decode cL_law 16 = .ok (.iconst 0, 1) := by decide +kernel
theorem dL_law_17 : decode cL_law 17 = .ok (.istore_n 3, 1) := by decide +kernel
theorem dL_law_18 : decode cL_law 18 = .ok (.iload_n 3, 1) := by decide +kernel
theorem dL_law_19 : decode cL_law 19 = .ok (.aload_n 0, 1) := by decide +kernel
theorem dL_law_20 : decode cL_law 20 = .ok (.arraylength, 1) := by decide +kernel
theorem dL_law_21 : decode cL_law 21 = .ok (.iconst 5, 1) := by decide +kernel
theorem dL_law_22 : decode cL_law 22 = .ok (.isub, 1) := by decide +kernel
theorem dL_law_23 : decode cL_law 23 = .ok (.if_icmp .gt 1011, 3) := by decide +kernel
theorem dL_law_26 : decode cL_law 26 = .ok (.aload_n 0, 1) := by decide +kernel
theorem dL_law_27 : decode cL_law 27 = .ok (.iload_n 3, 1) := by decide +kernel
theorem dL_law_28 : decode cL_law 28 = .ok (.iaload, 1) := by decide +kernel
theorem dL_law_29 : decode cL_law 29 = .ok (.bipush 31, 2) := by decide +kernel
theorem dL_law_31 : decode cL_law 31 = .ok (.iand, 1) := by decide +kernel
theorem dL_law_32 : decode cL_law 32 = .ok (.tableswitch 996 0 29 #[136, 159, 182, 195, 208, 231, 264, 297, 330, 363, 396, 429, 462, 485, 508, 531, 564, 577, 610, 643, 676, 719, 742, 775, 798, 821, 864, 907, 960, 973], 136) := by decide +kernel
theorem dL_law_168 : decode cL_law 168 = .ok (.aload_n 1, 1) := by decide +kernel
theorem dL_law_169 : decode cL_law 169 = .ok (.aload_n 0, 1) := by decide +kernel
theorem dL_law_170 : decode cL_law 170 = .ok (.iload_n 3, 1) := by decide +kernel
theorem dL_law_171 : decode cL_law 171 = .ok (.iconst 1, 1) := by decide +kernel
theorem dL_law_172 : decode cL_law 172 = .ok (.iadd, 1) := by decide +kernel
theorem dL_law_173 : decode cL_law 173 = .ok (.iaload, 1) := by decide +kernel
theorem dL_law_174 : decode cL_law 174 = .ok (.invokevirtual 13, 3) := by decide +kernel
theorem dL_law_177 : decode cL_law 177 = .ok (.aload_n 2, 1) := by decide +kernel
theorem dL_law_178 : decode cL_law 178 = .ok (.aload_n 0, 1) := by decide +kernel
theorem dL_law_179 : decode cL_law 179 = .ok (.iload_n 3, 1) := by decide +kernel
theorem dL_law_180 : decode cL_law 180 = .ok (.iconst 1, 1) := by decide +kernel
theorem dL_law_181 : decode cL_law 181 = .ok (.iadd, 1) := by decide +kernel
theorem dL_law_182 : decode cL_law 182 = .ok (.iaload, 1) := by decide +kernel
theorem dL_law_183 : decode cL_law 183 = .ok (.invokevirtual 17, 3) := by decide +kernel
theorem dL_law_186 : decode cL_law 186 = .ok (.if_icmp .eq 842, 3) := by decide +kernel
theorem dL_law_189 : decode cL_law 189 = .ok (.iconst 0, 1) := by decide +kernel
theorem dL_law_190 : decode cL_law 190 = .ok (.ireturn, 1) := by decide +kernel
theorem dL_law_191 : decode cL_law 191 = .ok (.aload_n 1, 1) := by decide +kernel
theorem dL_law_192 : decode cL_law 192 = .ok (.aload_n 0, 1) := by decide +kernel
theorem dL_law_193 : decode cL_law 193 = .ok (.iload_n 3, 1) := by decide +kernel
theorem dL_law_194 : decode cL_law 194 = .ok (.iconst 1, 1) := by decide +kernel
theorem dL_law_195 : decode cL_law 195 = .ok (.iadd, 1) := by decide +kernel
theorem dL_law_196 : decode cL_law 196 = .ok (.iaload, 1) := by decide +kernel
theorem dL_law_197 : decode cL_law 197 = .ok (.invokevirtual 18, 3) := by decide +kernel
theorem dL_law_200 : decode cL_law 200 = .ok (.aload_n 2, 1) := by decide +kernel
theorem dL_law_201 : decode cL_law 201 = .ok (.aload_n 0, 1) := by decide +kernel
theorem dL_law_202 : decode cL_law 202 = .ok (.iload_n 3, 1) := by decide +kernel
theorem dL_law_203 : decode cL_law 203 = .ok (.iconst 1, 1) := by decide +kernel
theorem dL_law_204 : decode cL_law 204 = .ok (.iadd, 1) := by decide +kernel
theorem dL_law_205 : decode cL_law 205 = .ok (.iaload, 1) := by decide +kernel
theorem dL_law_206 : decode cL_law 206 = .ok (.invokevirtual 21, 3) := by decide +kernel
theorem dL_law_209 : decode cL_law 209 = .ok (.if_icmp .eq 819, 3) := by decide +kernel
theorem dL_law_212 : decode cL_law 212 = .ok (.iconst 0, 1) := by decide +kernel
theorem dL_law_213 : decode cL_law 213 = .ok (.ireturn, 1) := by decide +kernel
theorem dL_law_214 : decode cL_law 214 = .ok (.aload_n 1, 1) := by decide +kernel
theorem dL_law_215 : decode cL_law 215 = .ok (.invokevirtual 22, 3) := by decide +kernel
theorem dL_law_218 : decode cL_law 218 = .ok (.aload_n 2, 1) := by decide +kernel
theorem dL_law_219 : decode cL_law 219 = .ok (.invokevirtual 26, 3) := by decide +kernel
theorem dL_law_222 : decode cL_law 222 = .ok (.if_icmp .eq 806, 3) := by decide +kernel
theorem dL_law_225 : decode cL_law 225 = .ok (.iconst 0, 1) := by decide +kernel
theorem dL_law_226 : decode cL_law 226 = .ok (.ireturn, 1) := by decide +kernel
theorem dL_law_227 : decode cL_law 227 = .ok (.aload_n 1, 1) := by decide +kernel
theorem dL_law_228 : decode cL_law 228 = .ok (.invokevirtual 27, 3) := by decide +kernel
theorem dL_law_231 : decode cL_law 231 = .ok (.aload_n 2, 1) := by decide +kernel
theorem dL_law_232 : decode cL_law 232 = .ok (.invokevirtual 30, 3) := by decide +kernel
theorem dL_law_235 : decode cL_law 235 = .ok (.if_icmp .eq 793, 3) := by decide +kernel
theorem dL_law_238 : decode cL_law 238 = .ok (.iconst 0, 1) := by decide +kernel
theorem dL_law_239 : decode cL_law 239 = .ok (.ireturn, 1) := by decide +kernel
theorem dL_law_240 : decode cL_law 240 = .ok (.aload_n 1, 1) := by decide +kernel
theorem dL_law_241 : decode cL_law 241 = .ok (.aload_n 0, 1) := by decide +kernel
theorem dL_law_242 : decode cL_law 242 = .ok (.iload_n 3, 1) := by decide +kernel
theorem dL_law_243 : decode cL_law 243 = .ok (.iconst 1, 1) := by decide +kernel
theorem dL_law_244 : decode cL_law 244 = .ok (.iadd, 1) := by decide +kernel
theorem dL_law_245 : decode cL_law 245 = .ok (.iaload, 1) := by decide +kernel
theorem dL_law_246 : decode cL_law 246 = .ok (.invokevirtual 31, 3) := by decide +kernel
theorem dL_law_249 : decode cL_law 249 = .ok (.aload_n 2, 1) := by decide +kernel
theorem dL_law_250 : decode cL_law 250 = .ok (.aload_n 0, 1) := by decide +kernel
theorem dL_law_251 : decode cL_law 251 = .ok (.iload_n 3, 1) := by decide +kernel
theorem dL_law_252 : decode cL_law 252 = .ok (.iconst 1, 1) := by decide +kernel
theorem dL_law_253 : decode cL_law 253 = .ok (.iadd, 1) := by decide +kernel
theorem dL_law_254 : decode cL_law 254 = .ok (.iaload, 1) := by decide +kernel
theorem dL_law_255 : decode cL_law 255 = .ok (.invokevirtual 34, 3) := by decide +kernel
theorem dL_law_258 : decode cL_law 258 = .ok (.if_icmp .eq 770, 3) := by decide +kernel
theorem dL_law_261 : decode cL_law 261 = .ok (.iconst 0, 1) := by decide +kernel
theorem dL_law_262 : decode cL_law 262 = .ok (.ireturn, 1) := by decide +kernel
theorem dL_law_263 : decode cL_law 263 = .ok (.aload_n 1, 1) := by decide +kernel
theorem dL_law_264 : decode cL_law 264 = .ok (.aload_n 0, 1) := by decide +kernel
theorem dL_law_265 : decode cL_law 265 = .ok (.iload_n 3, 1) := by decide +kernel
theorem dL_law_266 : decode cL_law 266 = .ok (.iconst 1, 1) := by decide +kernel
theorem dL_law_267 : decode cL_law 267 = .ok (.iadd, 1) := by decide +kernel
theorem dL_law_268 : decode cL_law 268 = .ok (.iaload, 1) := by decide +kernel
theorem dL_law_269 : decode cL_law 269 = .ok (.aload_n 0, 1) := by decide +kernel
theorem dL_law_270 : decode cL_law 270 = .ok (.iload_n 3, 1) := by decide +kernel
theorem dL_law_271 : decode cL_law 271 = .ok (.iconst 2, 1) := by decide +kernel
theorem dL_law_272 : decode cL_law 272 = .ok (.iadd, 1) := by decide +kernel
theorem dL_law_273 : decode cL_law 273 = .ok (.iaload, 1) := by decide +kernel
theorem dL_law_274 : decode cL_law 274 = .ok (.invokevirtual 35, 3) := by decide +kernel
theorem dL_law_277 : decode cL_law 277 = .ok (.aload_n 2, 1) := by decide +kernel
theorem dL_law_278 : decode cL_law 278 = .ok (.aload_n 0, 1) := by decide +kernel
theorem dL_law_279 : decode cL_law 279 = .ok (.iload_n 3, 1) := by decide +kernel
theorem dL_law_280 : decode cL_law 280 = .ok (.iconst 1, 1) := by decide +kernel
theorem dL_law_281 : decode cL_law 281 = .ok (.iadd, 1) := by decide +kernel
theorem dL_law_282 : decode cL_law 282 = .ok (.iaload, 1) := by decide +kernel
theorem dL_law_283 : decode cL_law 283 = .ok (.aload_n 0, 1) := by decide +kernel
theorem dL_law_284 : decode cL_law 284 = .ok (.iload_n 3, 1) := by decide +kernel
theorem dL_law_285 : decode cL_law 285 = .ok (.iconst 2, 1) := by decide +kernel
theorem dL_law_286 : decode cL_law 286 = .ok (.iadd, 1) := by decide +kernel
theorem dL_law_287 : decode cL_law 287 = .ok (.iaload, 1) := by decide +kernel
theorem dL_law_288 : decode cL_law 288 = .ok (.invokevirtual 39, 3) := by decide +kernel
theorem dL_law_291 : decode cL_law 291 = .ok (.if_icmp .eq 737, 3) := by decide +kernel
theorem dL_law_294 : decode cL_law 294 = .ok (.iconst 0, 1) := by decide +kernel
theorem dL_law_295 : decode cL_law 295 = .ok (.ireturn, 1) := by decide +kernel
theorem dL_law_296 : decode cL_law 296 = .ok (.aload_n 1, 1) := by decide +kernel
theorem dL_law_297 : decode cL_law 297 = .ok (.aload_n 0, 1) := by decide +kernel
theorem dL_law_298 : decode cL_law 298 = .ok (.iload_n 3, 1) := by decide +kernel
theorem dL_law_299 : decode cL_law 299 = .ok (.iconst 1, 1) := by decide +kernel
theorem dL_law_300 : decode cL_law 300 = .ok (.iadd, 1) := by decide +kernel
theorem dL_law_301 : decode cL_law 301 = .ok (.iaload, 1) := by decide +kernel
theorem dL_law_302 : decode cL_law 302 = .ok (.aload_n 0, 1) := by decide +kernel
theorem dL_law_303 : decode cL_law 303 = .ok (.iload_n 3, 1) := by decide +kernel
theorem dL_law_304 : decode cL_law 304 = .ok (.iconst 2, 1) := by decide +kernel
theorem dL_law_305 : decode cL_law 305 = .ok (.iadd, 1) := by decide +kernel
theorem dL_law_306 : decode cL_law 306 = .ok (.iaload, 1) := by decide +kernel
theorem dL_law_307 : decode cL_law 307 = .ok (.invokevirtual 40, 3) := by decide +kernel
theorem dL_law_310 : decode cL_law 310 = .ok (.aload_n 2, 1) := by decide +kernel
theorem dL_law_311 : decode cL_law 311 = .ok (.aload_n 0, 1) := by decide +kernel
theorem dL_law_312 : decode cL_law 312 = .ok (.iload_n 3, 1) := by decide +kernel
theorem dL_law_313 : decode cL_law 313 = .ok (.iconst 1, 1) := by decide +kernel
theorem dL_law_314 : decode cL_law 314 = .ok (.iadd, 1) := by decide +kernel
theorem dL_law_315 : decode cL_law 315 = .ok (.iaload, 1) := by decide +kernel
theorem dL_law_316 : decode cL_law 316 = .ok (.aload_n 0, 1) := by decide +kernel
theorem dL_law_317 : decode cL_law 317 = .ok (.iload_n 3, 1) := by decide +kernel
theorem dL_law_318 : decode cL_law 318 = .ok (.iconst 2, 1) := by decide +kernel
theorem dL_law_319 : decode cL_law 319 = .ok (.iadd, 1) := by decide +kernel
theorem dL_law_320 : decode cL_law 320 = .ok (.iaload, 1) := by decide +kernel
theorem dL_law_321 : decode cL_law 321 = .ok (.invokevirtual 43, 3) := by decide +kernel
theorem dL_law_324 : decode cL_law 324 = .ok (.if_icmp .eq 704, 3) := by decide +kernel
theorem dL_law_327 : decode cL_law 327 = .ok (.iconst 0, 1) := by decide +kernel
theorem dL_law_328 : decode cL_law 328 = .ok (.ireturn, 1) := by decide +kernel
theorem dL_law_329 : decode cL_law 329 = .ok (.aload_n 1, 1) := by decide +kernel
theorem dL_law_330 : decode cL_law 330 = .ok (.aload_n 0, 1) := by decide +kernel
theorem dL_law_331 : decode cL_law 331 = .ok (.iload_n 3, 1) := by decide +kernel
theorem dL_law_332 : decode cL_law 332 = .ok (.iconst 1, 1) := by decide +kernel
theorem dL_law_333 : decode cL_law 333 = .ok (.iadd, 1) := by decide +kernel
theorem dL_law_334 : decode cL_law 334 = .ok (.iaload, 1) := by decide +kernel
theorem dL_law_335 : decode cL_law 335 = .ok (.aload_n 0, 1) := by decide +kernel
theorem dL_law_336 : decode cL_law 336 = .ok (.iload_n 3, 1) := by decide +kernel
theorem dL_law_337 : decode cL_law 337 = .ok (.iconst 2, 1) := by decide +kernel
theorem dL_law_338 : decode cL_law 338 = .ok (.iadd, 1) := by decide +kernel
theorem dL_law_339 : decode cL_law 339 = .ok (.iaload, 1) := by decide +kernel
theorem dL_law_340 : decode cL_law 340 = .ok (.invokevirtual 44, 3) := by decide +kernel
theorem dL_law_343 : decode cL_law 343 = .ok (.aload_n 2, 1) := by decide +kernel
theorem dL_law_344 : decode cL_law 344 = .ok (.aload_n 0, 1) := by decide +kernel
theorem dL_law_345 : decode cL_law 345 = .ok (.iload_n 3, 1) := by decide +kernel
theorem dL_law_346 : decode cL_law 346 = .ok (.iconst 1, 1) := by decide +kernel
theorem dL_law_347 : decode cL_law 347 = .ok (.iadd, 1) := by decide +kernel
theorem dL_law_348 : decode cL_law 348 = .ok (.iaload, 1) := by decide +kernel
theorem dL_law_349 : decode cL_law 349 = .ok (.aload_n 0, 1) := by decide +kernel
theorem dL_law_350 : decode cL_law 350 = .ok (.iload_n 3, 1) := by decide +kernel
theorem dL_law_351 : decode cL_law 351 = .ok (.iconst 2, 1) := by decide +kernel
theorem dL_law_352 : decode cL_law 352 = .ok (.iadd, 1) := by decide +kernel
theorem dL_law_353 : decode cL_law 353 = .ok (.iaload, 1) := by decide +kernel
theorem dL_law_354 : decode cL_law 354 = .ok (.invokevirtual 47, 3) := by decide +kernel
theorem dL_law_357 : decode cL_law 357 = .ok (.if_icmp .eq 671, 3) := by decide +kernel
theorem dL_law_360 : decode cL_law 360 = .ok (.iconst 0, 1) := by decide +kernel
theorem dL_law_361 : decode cL_law 361 = .ok (.ireturn, 1) := by decide +kernel
theorem dL_law_362 : decode cL_law 362 = .ok (.aload_n 1, 1) := by decide +kernel
theorem dL_law_363 : decode cL_law 363 = .ok (.aload_n 0, 1) := by decide +kernel
theorem dL_law_364 : decode cL_law 364 = .ok (.iload_n 3, 1) := by decide +kernel
theorem dL_law_365 : decode cL_law 365 = .ok (.iconst 1, 1) := by decide +kernel
theorem dL_law_366 : decode cL_law 366 = .ok (.iadd, 1) := by decide +kernel
theorem dL_law_367 : decode cL_law 367 = .ok (.iaload, 1) := by decide +kernel
theorem dL_law_368 : decode cL_law 368 = .ok (.aload_n 0, 1) := by decide +kernel
theorem dL_law_369 : decode cL_law 369 = .ok (.iload_n 3, 1) := by decide +kernel
theorem dL_law_370 : decode cL_law 370 = .ok (.iconst 2, 1) := by decide +kernel
theorem dL_law_371 : decode cL_law 371 = .ok (.iadd, 1) := by decide +kernel
theorem dL_law_372 : decode cL_law 372 = .ok (.iaload, 1) := by decide +kernel
theorem dL_law_373 : decode cL_law 373 = .ok (.invokevirtual 48, 3) := by decide +kernel
theorem dL_law_376 : decode cL_law 376 = .ok (.aload_n 2, 1) := by decide +kernel
theorem dL_law_377 : decode cL_law 377 = .ok (.aload_n 0, 1) := by decide +kernel
theorem dL_law_378 : decode cL_law 378 = .ok (.iload_n 3, 1) := by decide +kernel
theorem dL_law_379 : decode cL_law 379 = .ok (.iconst 1, 1) := by decide +kernel
theorem dL_law_380 : decode cL_law 380 = .ok (.iadd, 1) := by decide +kernel
theorem dL_law_381 : decode cL_law 381 = .ok (.iaload, 1) := by decide +kernel
theorem dL_law_382 : decode cL_law 382 = .ok (.aload_n 0, 1) := by decide +kernel
theorem dL_law_383 : decode cL_law 383 = .ok (.iload_n 3, 1) := by decide +kernel
theorem dL_law_384 : decode cL_law 384 = .ok (.iconst 2, 1) := by decide +kernel
theorem dL_law_385 : decode cL_law 385 = .ok (.iadd, 1) := by decide +kernel
theorem dL_law_386 : decode cL_law 386 = .ok (.iaload, 1) := by decide +kernel
theorem dL_law_387 : decode cL_law 387 = .ok (.invokevirtual 51, 3) := by decide +kernel
theorem dL_law_390 : decode cL_law 390 = .ok (.if_icmp .eq 638, 3) := by decide +kernel
theorem dL_law_393 : decode cL_law 393 = .ok (.iconst 0, 1) := by decide +kernel
theorem dL_law_394 : decode cL_law 394 = .ok (.ireturn, 1) := by decide +kernel
theorem dL_law_395 : decode cL_law 395 = .ok (.aload_n 1, 1) := by decide +kernel
theorem dL_law_396 : decode cL_law 396 = .ok (.aload_n 0, 1) := by decide +kernel
theorem dL_law_397 : decode cL_law 397 = .ok (.iload_n 3, 1) := by decide +kernel
theorem dL_law_398 : decode cL_law 398 = .ok (.iconst 1, 1) := by decide +kernel
theorem dL_law_399 : decode cL_law 399 = .ok (.iadd, 1) := by decide +kernel
theorem dL_law_400 : decode cL_law 400 = .ok (.iaload, 1) := by decide +kernel
theorem dL_law_401 : decode cL_law 401 = .ok (.aload_n 0, 1) := by decide +kernel
theorem dL_law_402 : decode cL_law 402 = .ok (.iload_n 3, 1) := by decide +kernel
theorem dL_law_403 : decode cL_law 403 = .ok (.iconst 2, 1) := by decide +kernel
theorem dL_law_404 : decode cL_law 404 = .ok (.iadd, 1) := by decide +kernel
theorem dL_law_405 : decode cL_law 405 = .ok (.iaload, 1) := by decide +kernel
theorem dL_law_406 : decode cL_law 406 = .ok (.invokevirtual 52, 3) := by decide +kernel
theorem dL_law_409 : decode cL_law 409 = .ok (.aload_n 2, 1) := by decide +kernel
theorem dL_law_410 : decode cL_law 410 = .ok (.aload_n 0, 1) := by decide +kernel
theorem dL_law_411 : decode cL_law 411 = .ok (.iload_n 3, 1) := by decide +kernel
theorem dL_law_412 : decode cL_law 412 = .ok (.iconst 1, 1) := by decide +kernel
theorem dL_law_413 : decode cL_law 413 = .ok (.iadd, 1) := by decide +kernel
theorem dL_law_414 : decode cL_law 414 = .ok (.iaload, 1) := by decide +kernel
theorem dL_law_415 : decode cL_law 415 = .ok (.aload_n 0, 1) := by decide +kernel
theorem dL_law_416 : decode cL_law 416 = .ok (.iload_n 3, 1) := by decide +kernel
theorem dL_law_417 : decode cL_law 417 = .ok (.iconst 2, 1) := by decide +kernel
theorem dL_law_418 : decode cL_law 418 = .ok (.iadd, 1) := by decide +kernel
theorem dL_law_419 : decode cL_law 419 = .ok (.iaload, 1) := by decide +kernel
theorem dL_law_420 : decode cL_law 420 = .ok (.invokevirtual 55, 3) := by decide +kernel
theorem dL_law_423 : decode cL_law 423 = .ok (.if_icmp .eq 605, 3) := by decide +kernel
theorem dL_law_426 : decode cL_law 426 = .ok (.iconst 0, 1) := by decide +kernel
theorem dL_law_427 : decode cL_law 427 = .ok (.ireturn, 1) := by decide +kernel
theorem dL_law_428 : decode cL_law 428 = .ok (.aload_n 1, 1) := by decide +kernel
theorem dL_law_429 : decode cL_law 429 = .ok (.aload_n 0, 1) := by decide +kernel
theorem dL_law_430 : decode cL_law 430 = .ok (.iload_n 3, 1) := by decide +kernel
theorem dL_law_431 : decode cL_law 431 = .ok (.iconst 1, 1) := by decide +kernel
theorem dL_law_432 : decode cL_law 432 = .ok (.iadd, 1) := by decide +kernel
theorem dL_law_433 : decode cL_law 433 = .ok (.iaload, 1) := by decide +kernel
theorem dL_law_434 : decode cL_law 434 = .ok (.aload_n 0, 1) := by decide +kernel
theorem dL_law_435 : decode cL_law 435 = .ok (.iload_n 3, 1) := by decide +kernel
theorem dL_law_436 : decode cL_law 436 = .ok (.iconst 2, 1) := by decide +kernel
theorem dL_law_437 : decode cL_law 437 = .ok (.iadd, 1) := by decide +kernel
theorem dL_law_438 : decode cL_law 438 = .ok (.iaload, 1) := by decide +kernel
theorem dL_law_439 : decode cL_law 439 = .ok (.invokevirtual 56, 3) := by decide +kernel
theorem dL_law_442 : decode cL_law 442 = .ok (.aload_n 2, 1) := by decide +kernel
theorem dL_law_443 : decode cL_law 443 = .ok (.aload_n 0, 1) := by decide +kernel
theorem dL_law_444 : decode cL_law 444 = .ok (.iload_n 3, 1) := by decide +kernel
theorem dL_law_445 : decode cL_law 445 = .ok (.iconst 1, 1) := by decide +kernel
theorem dL_law_446 : decode cL_law 446 = .ok (.iadd, 1) := by decide +kernel
theorem dL_law_447 : decode cL_law 447 = .ok (.iaload, 1) := by decide +kernel
theorem dL_law_448 : decode cL_law 448 = .ok (.aload_n 0, 1) := by decide +kernel
theorem dL_law_449 : decode cL_law 449 = .ok (.iload_n 3, 1) := by decide +kernel
theorem dL_law_450 : decode cL_law 450 = .ok (.iconst 2, 1) := by decide +kernel
theorem dL_law_451 : decode cL_law 451 = .ok (.iadd, 1) := by decide +kernel
theorem dL_law_452 : decode cL_law 452 = .ok (.iaload, 1) := by decide +kernel
theorem dL_law_453 : decode cL_law 453 = .ok (.invokevirtual 59, 3) := by decide +kernel
theorem dL_law_456 : decode cL_law 456 = .ok (.if_icmp .eq 572, 3) := by decide +kernel
theorem dL_law_459 : decode cL_law 459 = .ok (.iconst 0, 1) := by decide +kernel
theorem dL_law_460 : decode cL_law 460 = .ok (.ireturn, 1) := by decide +kernel
theorem dL_law_461 : decode cL_law 461 = .ok (.aload_n 1, 1) := by decide +kernel
theorem dL_law_462 : decode cL_law 462 = .ok (.aload_n 0, 1) := by decide +kernel
theorem dL_law_463 : decode cL_law 463 = .ok (.iload_n 3, 1) := by decide +kernel
theorem dL_law_464 : decode cL_law 464 = .ok (.iconst 1, 1) := by decide +kernel
theorem dL_law_465 : decode cL_law 465 = .ok (.iadd, 1) := by decide +kernel
theorem dL_law_466 : decode cL_law 466 = .ok (.iaload, 1) := by decide +kernel
theorem dL_law_467 : decode cL_law 467 = .ok (.aload_n 0, 1) := by decide +kernel
theorem dL_law_468 : decode cL_law 468 = .ok (.iload_n 3, 1) := by decide +kernel
theorem dL_law_469 : decode cL_law 469 = .ok (.iconst 2, 1) := by decide +kernel
theorem dL_law_470 : decode cL_law 470 = .ok (.iadd, 1) := by decide +kernel
theorem dL_law_471 : decode cL_law 471 = .ok (.iaload, 1) := by decide +kernel
theorem dL_law_472 : decode cL_law 472 = .ok (.invokevirtual 60, 3) := by decide +kernel
theorem dL_law_475 : decode cL_law 475 = .ok (.aload_n 2, 1) := by decide +kernel
theorem dL_law_476 : decode cL_law 476 = .ok (.aload_n 0, 1) := by decide +kernel
theorem dL_law_477 : decode cL_law 477 = .ok (.iload_n 3, 1) := by decide +kernel
theorem dL_law_478 : decode cL_law 478 = .ok (.iconst 1, 1) := by decide +kernel
theorem dL_law_479 : decode cL_law 479 = .ok (.iadd, 1) := by decide +kernel
theorem dL_law_480 : decode cL_law 480 = .ok (.iaload, 1) := by decide +kernel
theorem dL_law_481 : decode cL_law 481 = .ok (.aload_n 0, 1) := by decide +kernel
theorem dL_law_482 : decode cL_law 482 = .ok (.iload_n 3, 1) := by decide +kernel
theorem dL_law_483 : decode cL_law 483 = .ok (.iconst 2, 1) := by decide +kernel
theorem dL_law_484 : decode cL_law 484 = .ok (.iadd, 1) := by decide +kernel
theorem dL_law_485 : decode cL_law 485 = .ok (.iaload, 1) := by decide +kernel
theorem dL_law_486 : decode cL_law 486 = .ok (.invokevirtual 63, 3) := by decide +kernel
theorem dL_law_489 : decode cL_law 489 = .ok (.if_icmp .eq 539, 3) := by decide +kernel
theorem dL_law_492 : decode cL_law 492 = .ok (.iconst 0, 1) := by decide +kernel
theorem dL_law_493 : decode cL_law 493 = .ok (.ireturn, 1) := by decide +kernel
theorem dL_law_494 : decode cL_law 494 = .ok (.aload_n 1, 1) := by decide +kernel
theorem dL_law_495 : decode cL_law 495 = .ok (.aload_n 0, 1) := by decide +kernel
theorem dL_law_496 : decode cL_law 496 = .ok (.iload_n 3, 1) := by decide +kernel
theorem dL_law_497 : decode cL_law 497 = .ok (.iconst 1, 1) := by decide +kernel
theorem dL_law_498 : decode cL_law 498 = .ok (.iadd, 1) := by decide +kernel
theorem dL_law_499 : decode cL_law 499 = .ok (.iaload, 1) := by decide +kernel
theorem dL_law_500 : decode cL_law 500 = .ok (.invokevirtual 64, 3) := by decide +kernel
theorem dL_law_503 : decode cL_law 503 = .ok (.aload_n 2, 1) := by decide +kernel
theorem dL_law_504 : decode cL_law 504 = .ok (.aload_n 0, 1) := by decide +kernel
theorem dL_law_505 : decode cL_law 505 = .ok (.iload_n 3, 1) := by decide +kernel
theorem dL_law_506 : decode cL_law 506 = .ok (.iconst 1, 1) := by decide +kernel
theorem dL_law_507 : decode cL_law 507 = .ok (.iadd, 1) := by decide +kernel
theorem dL_law_508 : decode cL_law 508 = .ok (.iaload, 1) := by decide +kernel
theorem dL_law_509 : decode cL_law 509 = .ok (.invokevirtual 67, 3) := by decide +kernel
theorem dL_law_512 : decode cL_law 512 = .ok (.if_icmp .eq 516, 3) := by decide +kernel
theorem dL_law_515 : decode cL_law 515 = .ok (.iconst 0, 1) := by decide +kernel
theorem dL_law_516 : decode cL_law 516 = .ok (.ireturn, 1) := by decide +kernel
theorem dL_law_517 : decode cL_law 517 = .ok (.aload_n 1, 1) := by decide +kernel
theorem dL_law_518 : decode cL_law 518 = .ok (.aload_n 0, 1) := by decide +kernel
theorem dL_law_519 : decode cL_law 519 = .ok (.iload_n 3, 1) := by decide +kernel
theorem dL_law_520 : decode cL_law 520 = .ok (.iconst 1, 1) := by decide +kernel
theorem dL_law_521 : decode cL_law 521 = .ok (.iadd, 1) := by decide +kernel
theorem dL_law_522 : decode cL_law 522 = .ok (.iaload, 1) := by decide +kernel
theorem dL_law_523 : decode cL_law 523 = .ok (.invokevirtual 68, 3) := by decide +kernel
theorem dL_law_526 : decode cL_law 526 = .ok (.aload_n 2, 1) := by decide +kernel
theorem dL_law_527 : decode cL_law 527 = .ok (.aload_n 0, 1) := by decide +kernel
theorem dL_law_528 : decode cL_law 528 = .ok (.iload_n 3, 1) := by decide +kernel
theorem dL_law_529 : decode cL_law 529 = .ok (.iconst 1, 1) := by decide +kernel
theorem dL_law_530 : decode cL_law 530 = .ok (.iadd, 1) := by decide +kernel
theorem dL_law_531 : decode cL_law 531 = .ok (.iaload, 1) := by decide +kernel
theorem dL_law_532 : decode cL_law 532 = .ok (.invokevirtual 71, 3) := by decide +kernel
theorem dL_law_535 : decode cL_law 535 = .ok (.if_icmp .eq 493, 3) := by decide +kernel
theorem dL_law_538 : decode cL_law 538 = .ok (.iconst 0, 1) := by decide +kernel
theorem dL_law_539 : decode cL_law 539 = .ok (.ireturn, 1) := by decide +kernel
theorem dL_law_540 : decode cL_law 540 = .ok (.aload_n 1, 1) := by decide +kernel
theorem dL_law_541 : decode cL_law 541 = .ok (.aload_n 0, 1) := by decide +kernel
theorem dL_law_542 : decode cL_law 542 = .ok (.iload_n 3, 1) := by decide +kernel
theorem dL_law_543 : decode cL_law 543 = .ok (.iconst 1, 1) := by decide +kernel
theorem dL_law_544 : decode cL_law 544 = .ok (.iadd, 1) := by decide +kernel
theorem dL_law_545 : decode cL_law 545 = .ok (.iaload, 1) := by decide +kernel
theorem dL_law_546 : decode cL_law 546 = .ok (.invokevirtual 72, 3) := by decide +kernel
theorem dL_law_549 : decode cL_law 549 = .ok (.aload_n 2, 1) := by decide +kernel
theorem dL_law_550 : decode cL_law 550 = .ok (.aload_n 0, 1) := by decide +kernel
theorem dL_law_551 : decode cL_law 551 = .ok (.iload_n 3, 1) := by decide +kernel
theorem dL_law_552 : decode cL_law 552 = .ok (.iconst 1, 1) := by decide +kernel
theorem dL_law_553 : decode cL_law 553 = .ok (.iadd, 1) := by decide +kernel
theorem dL_law_554 : decode cL_law 554 = .ok (.iaload, 1) := by decide +kernel
theorem dL_law_555 : decode cL_law 555 = .ok (.invokevirtual 75, 3) := by decide +kernel
theorem dL_law_558 : decode cL_law 558 = .ok (.if_icmp .eq 470, 3) := by decide +kernel
theorem dL_law_561 : decode cL_law 561 = .ok (.iconst 0, 1) := by decide +kernel
theorem dL_law_562 : decode cL_law 562 = .ok (.ireturn, 1) := by decide +kernel
theorem dL_law_563 : decode cL_law 563 = .ok (.aload_n 1, 1) := by decide +kernel
theorem dL_law_564 : decode cL_law 564 = .ok (.aload_n 0, 1) := by decide +kernel
theorem dL_law_565 : decode cL_law 565 = .ok (.iload_n 3, 1) := by decide +kernel
theorem dL_law_566 : decode cL_law 566 = .ok (.iconst 1, 1) := by decide +kernel
theorem dL_law_567 : decode cL_law 567 = .ok (.iadd, 1) := by decide +kernel
theorem dL_law_568 : decode cL_law 568 = .ok (.iaload, 1) := by decide +kernel
theorem dL_law_569 : decode cL_law 569 = .ok (.aload_n 0, 1) := by decide +kernel
theorem dL_law_570 : decode cL_law 570 = .ok (.iload_n 3, 1) := by decide +kernel
theorem dL_law_571 : decode cL_law 571 = .ok (.iconst 2, 1) := by decide +kernel
theorem dL_law_572 : decode cL_law 572 = .ok (.iadd, 1) := by decide +kernel
theorem dL_law_573 : decode cL_law 573 = .ok (.iaload, 1) := by decide +kernel
theorem dL_law_574 : decode cL_law 574 = .ok (.invokevirtual 76, 3) := by decide +kernel
theorem dL_law_577 : decode cL_law 577 = .ok (.aload_n 2, 1) := by decide +kernel
theorem dL_law_578 : decode cL_law 578 = .ok (.aload_n 0, 1) := by decide +kernel
theorem dL_law_579 : decode cL_law 579 = .ok (.iload_n 3, 1) := by decide +kernel
theorem dL_law_580 : decode cL_law 580 = .ok (.iconst 1, 1) := by decide +kernel
theorem dL_law_581 : decode cL_law 581 = .ok (.iadd, 1) := by decide +kernel
theorem dL_law_582 : decode cL_law 582 = .ok (.iaload, 1) := by decide +kernel
theorem dL_law_583 : decode cL_law 583 = .ok (.aload_n 0, 1) := by decide +kernel
theorem dL_law_584 : decode cL_law 584 = .ok (.iload_n 3, 1) := by decide +kernel
theorem dL_law_585 : decode cL_law 585 = .ok (.iconst 2, 1) := by decide +kernel
theorem dL_law_586 : decode cL_law 586 = .ok (.iadd, 1) := by decide +kernel
theorem dL_law_587 : decode cL_law 587 = .ok (.iaload, 1) := by decide +kernel
theorem dL_law_588 : decode cL_law 588 = .ok (.invokevirtual 79, 3) := by decide +kernel
theorem dL_law_591 : decode cL_law 591 = .ok (.if_icmp .eq 437, 3) := by decide +kernel
theorem dL_law_594 : decode cL_law 594 = .ok (.iconst 0, 1) := by decide +kernel
theorem dL_law_595 : decode cL_law 595 = .ok (.ireturn, 1) := by decide +kernel
theorem dL_law_596 : decode cL_law 596 = .ok (.aload_n 1, 1) := by decide +kernel
theorem dL_law_597 : decode cL_law 597 = .ok (.invokevirtual 80, 3) := by decide +kernel
theorem dL_law_600 : decode cL_law 600 = .ok (.aload_n 2, 1) := by decide +kernel
theorem dL_law_601 : decode cL_law 601 = .ok (.invokevirtual 83, 3) := by decide +kernel
theorem dL_law_604 : decode cL_law 604 = .ok (.if_icmp .eq 424, 3) := by decide +kernel
theorem dL_law_607 : decode cL_law 607 = .ok (.iconst 0, 1) := by decide +kernel
theorem dL_law_608 : decode cL_law 608 = .ok (.ireturn, 1) := by decide +kernel
theorem dL_law_609 : decode cL_law 609 = .ok (.aload_n 1, 1) := by decide +kernel
theorem dL_law_610 : decode cL_law 610 = .ok (.aload_n 0, 1) := by decide +kernel
theorem dL_law_611 : decode cL_law 611 = .ok (.iload_n 3, 1) := by decide +kernel
theorem dL_law_612 : decode cL_law 612 = .ok (.iconst 1, 1) := by decide +kernel
theorem dL_law_613 : decode cL_law 613 = .ok (.iadd, 1) := by decide +kernel
theorem dL_law_614 : decode cL_law 614 = .ok (.iaload, 1) := by decide +kernel
theorem dL_law_615 : decode cL_law 615 = .ok (.aload_n 0, 1) := by decide +kernel
theorem dL_law_616 : decode cL_law 616 = .ok (.iload_n 3, 1) := by decide +kernel
theorem dL_law_617 : decode cL_law 617 = .ok (.iconst 2, 1) := by decide +kernel
theorem dL_law_618 : decode cL_law 618 = .ok (.iadd, 1) := by decide +kernel
theorem dL_law_619 : decode cL_law 619 = .ok (.iaload, 1) := by decide +kernel
theorem dL_law_620 : decode cL_law 620 = .ok (.invokevirtual 84, 3) := by decide +kernel
theorem dL_law_623 : decode cL_law 623 = .ok (.aload_n 2, 1) := by decide +kernel
theorem dL_law_624 : decode cL_law 624 = .ok (.aload_n 0, 1) := by decide +kernel
theorem dL_law_625 : decode cL_law 625 = .ok (.iload_n 3, 1) := by decide +kernel
theorem dL_law_626 : decode cL_law 626 = .ok (.iconst 1, 1) := by decide +kernel
theorem dL_law_627 : decode cL_law 627 = .ok (.iadd, 1) := by decide +kernel
theorem dL_law_628 : decode cL_law 628 = .ok (.iaload, 1) := by decide +kernel
theorem dL_law_629 : decode cL_law 629 = .ok (.aload_n 0, 1) := by decide +kernel
theorem dL_law_630 : decode cL_law 630 = .ok (.iload_n 3, 1) := by decide +kernel
theorem dL_law_631 : decode cL_law 631 = .ok (.iconst 2, 1) := by decide +kernel
theorem dL_law_632 : decode cL_law 632 = .ok (.iadd, 1) := by decide +kernel
theorem dL_law_633 : decode cL_law 633 = .ok (.iaload, 1) := by decide +kernel
theorem dL_law_634 : decode cL_law 634 = .ok (.invokevirtual 87, 3) := by decide +kernel
theorem dL_law_637 : decode cL_law 637 = .ok (.if_icmp .eq 391, 3) := by decide +kernel
theorem dL_law_640 : decode cL_law 640 = .ok (.iconst 0, 1) := by decide +kernel
theorem dL_law_641 : decode cL_law 641 = .ok (.ireturn, 1) := by decide +kernel
theorem dL_law_642 : decode cL_law 642 = .ok (.aload_n 1, 1) := by decide +kernel
theorem dL_law_643 : decode cL_law 643 = .ok (.aload_n 0, 1) := by decide +kernel
theorem dL_law_644 : decode cL_law 644 = .ok (.iload_n 3, 1) := by decide +kernel
theorem dL_law_645 : decode cL_law 645 = .ok (.iconst 1, 1) := by decide +kernel
theorem dL_law_646 : decode cL_law 646 = .ok (.iadd, 1) := by decide +kernel
theorem dL_law_647 : decode cL_law 647 = .ok (.iaload, 1) := by decide +kernel
theorem dL_law_648 : decode cL_law 648 = .ok (.aload_n 0, 1) := by decide +kernel
theorem dL_law_649 : decode cL_law 649 = .ok (.iload_n 3, 1) := by decide +kernel
theorem dL_law_650 : decode cL_law 650 = .ok (.iconst 2, 1) := by decide +kernel
theorem dL_law_651 : decode cL_law 651 = .ok (.iadd, 1) := by decide +kernel
theorem dL_law_652 : decode cL_law 652 = .ok (.iaload, 1) := by decide +kernel
theorem dL_law_653 : decode cL_law 653 = .ok (.invokevirtual 88, 3) := by decide +kernel
theorem dL_law_656 : decode cL_law 656 = .ok (.aload_n 2, 1) := by decide +kernel
theorem dL_law_657 : decode cL_law 657 = .ok (.aload_n 0, 1) := by decide +kernel
theorem dL_law_658 : decode cL_law 658 = .ok (.iload_n 3, 1) := by decide +kernel
theorem dL_law_659 : decode cL_law 659 = .ok (.iconst 1, 1) := by decide +kernel
theorem dL_law_660 : decode cL_law 660 = .ok (.iadd, 1) := by decide +kernel
theorem dL_law_661 : decode cL_law 661 = .ok (.iaload, 1) := by decide +kernel
theorem dL_law_662 : decode cL_law 662 = .ok (.aload_n 0, 1) := by decide +kernel
theorem dL_law_663 : decode cL_law 663 = .ok (.iload_n 3, 1) := by decide +kernel
theorem dL_law_664 : decode cL_law 664 = .ok (.iconst 2, 1) := by decide +kernel
theorem dL_law_665 : decode cL_law 665 = .ok (.iadd, 1) := by decide +kernel
theorem dL_law_666 : decode cL_law 666 = .ok (.iaload, 1) := by decide +kernel
theorem dL_law_667 : decode cL_law 667 = .ok (.invokevirtual 91, 3) := by decide +kernel
theorem dL_law_670 : decode cL_law 670 = .ok (.if_icmp .eq 358, 3) := by decide +kernel
theorem dL_law_673 : decode cL_law 673 = .ok (.iconst 0, 1) := by decide +kernel
theorem dL_law_674 : decode cL_law 674 = .ok (.ireturn, 1) := by decide +kernel
theorem dL_law_675 : decode cL_law 675 = .ok (.aload_n 1, 1) := by decide +kernel
theorem dL_law_676 : decode cL_law 676 = .ok (.aload_n 0, 1) := by decide +kernel
theorem dL_law_677 : decode cL_law 677 = .ok (.iload_n 3, 1) := by decide +kernel
theorem dL_law_678 : decode cL_law 678 = .ok (.iconst 1, 1) := by decide +kernel
theorem dL_law_679 : decode cL_law 679 = .ok (.iadd, 1) := by decide +kernel
theorem dL_law_680 : decode cL_law 680 = .ok (.iaload, 1) := by decide +kernel
theorem dL_law_681 : decode cL_law 681 = .ok (.aload_n 0, 1) := by decide +kernel
theorem dL_law_682 : decode cL_law 682 = .ok (.iload_n 3, 1) := by decide +kernel
theorem dL_law_683 : decode cL_law 683 = .ok (.iconst 2, 1) := by decide +kernel
theorem dL_law_684 : decode cL_law 684 = .ok (.iadd, 1) := by decide +kernel
theorem dL_law_685 : decode cL_law 685 = .ok (.iaload, 1) := by decide +kernel
theorem dL_law_686 : decode cL_law 686 = .ok (.invokevirtual 92, 3) := by decide +kernel
theorem dL_law_689 : decode cL_law 689 = .ok (.aload_n 2, 1) := by decide +kernel
theorem dL_law_690 : decode cL_law 690 = .ok (.aload_n 0, 1) := by decide +kernel
theorem dL_law_691 : decode cL_law 691 = .ok (.iload_n 3, 1) := by decide +kernel
theorem dL_law_692 : decode cL_law 692 = .ok (.iconst 1, 1) := by decide +kernel
theorem dL_law_693 : decode cL_law 693 = .ok (.iadd, 1) := by decide +kernel
theorem dL_law_694 : decode cL_law 694 = .ok (.iaload, 1) := by decide +kernel
theorem dL_law_695 : decode cL_law 695 = .ok (.aload_n 0, 1) := by decide +kernel
theorem dL_law_696 : decode cL_law 696 = .ok (.iload_n 3, 1) := by decide +kernel
theorem dL_law_697 : decode cL_law 697 = .ok (.iconst 2, 1) := by decide +kernel
theorem dL_law_698 : decode cL_law 698 = .ok (.iadd, 1) := by decide +kernel
theorem dL_law_699 : decode cL_law 699 = .ok (.iaload, 1) := by decide +kernel
theorem dL_law_700 : decode cL_law 700 = .ok (.invokevirtual 95, 3) := by decide +kernel
theorem dL_law_703 : decode cL_law 703 = .ok (.if_icmp .eq 325, 3) := by decide +kernel
theorem dL_law_706 : decode cL_law 706 = .ok (.iconst 0, 1) := by decide +kernel
theorem dL_law_707 : decode cL_law 707 = .ok (.ireturn, 1) := by decide +kernel
theorem dL_law_708 : decode cL_law 708 = .ok (.aload_n 1, 1) := by decide +kernel
theorem dL_law_709 : decode cL_law 709 = .ok (.aload_n 0, 1) := by decide +kernel
theorem dL_law_710 : decode cL_law 710 = .ok (.iload_n 3, 1) := by decide +kernel
theorem dL_law_711 : decode cL_law 711 = .ok (.iconst 1, 1) := by decide +kernel
theorem dL_law_712 : decode cL_law 712 = .ok (.iadd, 1) := by decide +kernel
theorem dL_law_713 : decode cL_law 713 = .ok (.iaload, 1) := by decide +kernel
theorem dL_law_714 : decode cL_law 714 = .ok (.aload_n 0, 1) := by decide +kernel
theorem dL_law_715 : decode cL_law 715 = .ok (.iload_n 3, 1) := by decide +kernel
theorem dL_law_716 : decode cL_law 716 = .ok (.iconst 2, 1) := by decide +kernel
theorem dL_law_717 : decode cL_law 717 = .ok (.iadd, 1) := by decide +kernel
theorem dL_law_718 : decode cL_law 718 = .ok (.iaload, 1) := by decide +kernel
theorem dL_law_719 : decode cL_law 719 = .ok (.aload_n 0, 1) := by decide +kernel
theorem dL_law_720 : decode cL_law 720 = .ok (.iload_n 3, 1) := by decide +kernel
theorem dL_law_721 : decode cL_law 721 = .ok (.iconst 3, 1) := by decide +kernel
theorem dL_law_722 : decode cL_law 722 = .ok (.iadd, 1) := by decide +kernel
theorem dL_law_723 : decode cL_law 723 = .ok (.iaload, 1) := by decide +kernel
theorem dL_law_724 : decode cL_law 724 = .ok (.invokevirtual 96, 3) := by decide +kernel
theorem dL_law_727 : decode cL_law 727 = .ok (.aload_n 2, 1) := by decide +kernel
theorem dL_law_728 : decode cL_law 728 = .ok (.aload_n 0, 1) := by decide +kernel
theorem dL_law_729 : decode cL_law 729 = .ok (.iload_n 3, 1) := by decide +kernel
theorem dL_law_730 : decode cL_law 730 = .ok (.iconst 1, 1) := by decide +kernel
theorem dL_law_731 : decode cL_law 731 = .ok (.iadd, 1) := by decide +kernel
theorem dL_law_732 : decode cL_law 732 = .ok (.iaload, 1) := by decide +kernel
theorem dL_law_733 : decode cL_law 733 = .ok (.aload_n 0, 1) := by decide +kernel
theorem dL_law_734 : decode cL_law 734 = .ok (.iload_n 3, 1) := by decide +kernel
theorem dL_law_735 : decode cL_law 735 = .ok (.iconst 2, 1) := by decide +kernel
theorem dL_law_736 : decode cL_law 736 = .ok (.iadd, 1) := by decide +kernel
theorem dL_law_737 : decode cL_law 737 = .ok (.iaload, 1) := by decide +kernel
theorem dL_law_738 : decode cL_law 738 = .ok (.aload_n 0, 1) := by decide +kernel
theorem dL_law_739 : decode cL_law 739 = .ok (.iload_n 3, 1) := by decide +kernel
theorem dL_law_740 : decode cL_law 740 = .ok (.iconst 3, 1) := by decide +kernel
theorem dL_law_741 : decode cL_law 741 = .ok (.iadd, 1) := by decide +kernel
theorem dL_law_742 : decode cL_law 742 = .ok (.iaload, 1) := by decide +kernel
theorem dL_law_743 : decode cL_law 743 = .ok (.invokevirtual 100, 3) := by decide +kernel
theorem dL_law_746 : decode cL_law 746 = .ok (.if_icmp .eq 282, 3) := by decide +kernel
theorem dL_law_749 : decode cL_law 749 = .ok (.iconst 0, 1) := by decide +kernel
theorem dL_law_750 : decode cL_law 750 = .ok (.ireturn, 1) := by decide +kernel
theorem dL_law_751 : decode cL_law 751 = .ok (.aload_n 1, 1) := by decide +kernel
theorem dL_law_752 : decode cL_law 752 = .ok (.aload_n 0, 1) := by decide +kernel
theorem dL_law_753 : decode cL_law 753 = .ok (.iload_n 3, 1) := by decide +kernel
theorem dL_law_754 : decode cL_law 754 = .ok (.iconst 1, 1) := by decide +kernel
theorem dL_law_755 : decode cL_law 755 = .ok (.iadd, 1) := by decide +kernel
theorem dL_law_756 : decode cL_law 756 = .ok (.iaload, 1) := by decide +kernel
theorem dL_law_757 : decode cL_law 757 = .ok (.invokevirtual 101, 3) := by decide +kernel
theorem dL_law_760 : decode cL_law 760 = .ok (.aload_n 2, 1) := by decide +kernel
theorem dL_law_761 : decode cL_law 761 = .ok (.aload_n 0, 1) := by decide +kernel
theorem dL_law_762 : decode cL_law 762 = .ok (.iload_n 3, 1) := by decide +kernel
theorem dL_law_763 : decode cL_law 763 = .ok (.iconst 1, 1) := by decide +kernel
theorem dL_law_764 : decode cL_law 764 = .ok (.iadd, 1) := by decide +kernel
theorem dL_law_765 : decode cL_law 765 = .ok (.iaload, 1) := by decide +kernel
theorem dL_law_766 : decode cL_law 766 = .ok (.invokevirtual 104, 3) := by decide +kernel
theorem dL_law_769 : decode cL_law 769 = .ok (.if_icmp .eq 259, 3) := by decide +kernel
theorem dL_law_772 : decode cL_law 772 = .ok (.iconst 0, 1) := by decide +kernel
theorem dL_law_773 : decode cL_law 773 = .ok (.ireturn, 1) := by decide +kernel
theorem dL_law_774 : decode cL_law 774 = .ok (.aload_n 1, 1) := by decide +kernel
theorem dL_law_775 : decode cL_law 775 = .ok (.aload_n 0, 1) := by decide +kernel
theorem dL_law_776 : decode cL_law 776 = .ok (.iload_n 3, 1) := by decide +kernel
theorem dL_law_777 : decode cL_law 777 = .ok (.iconst 1, 1) := by decide +kernel
theorem dL_law_778 : decode cL_law 778 = .ok (.iadd, 1) := by decide +kernel
theorem dL_law_779 : decode cL_law 779 = .ok (.iaload, 1) := by decide +kernel
theorem dL_law_780 : decode cL_law 780 = .ok (.aload_n 0, 1) := by decide +kernel
theorem dL_law_781 : decode cL_law 781 = .ok (.iload_n 3, 1) := by decide +kernel
theorem dL_law_782 : decode cL_law 782 = .ok (.iconst 2, 1) := by decide +kernel
theorem dL_law_783 : decode cL_law 783 = .ok (.iadd, 1) := by decide +kernel
theorem dL_law_784 : decode cL_law 784 = .ok (.iaload, 1) := by decide +kernel
theorem dL_law_785 : decode cL_law 785 = .ok (.invokevirtual 105, 3) := by decide +kernel
theorem dL_law_788 : decode cL_law 788 = .ok (.aload_n 2, 1) := by decide +kernel
theorem dL_law_789 : decode cL_law 789 = .ok (.aload_n 0, 1) := by decide +kernel
theorem dL_law_790 : decode cL_law 790 = .ok (.iload_n 3, 1) := by decide +kernel
theorem dL_law_791 : decode cL_law 791 = .ok (.iconst 1, 1) := by decide +kernel
theorem dL_law_792 : decode cL_law 792 = .ok (.iadd, 1) := by decide +kernel
theorem dL_law_793 : decode cL_law 793 = .ok (.iaload, 1) := by decide +kernel
theorem dL_law_794 : decode cL_law 794 = .ok (.aload_n 0, 1) := by decide +kernel
theorem dL_law_795 : decode cL_law 795 = .ok (.iload_n 3, 1) := by decide +kernel
theorem dL_law_796 : decode cL_law 796 = .ok (.iconst 2, 1) := by decide +kernel
theorem dL_law_797 : decode cL_law 797 = .ok (.iadd, 1) := by decide +kernel
theorem dL_law_798 : decode cL_law 798 = .ok (.iaload, 1) := by decide +kernel
theorem dL_law_799 : decode cL_law 799 = .ok (.invokevirtual 108, 3) := by decide +kernel
theorem dL_law_802 : decode cL_law 802 = .ok (.if_icmp .eq 226, 3) := by decide +kernel
theorem dL_law_805 : decode cL_law 805 = .ok (.iconst 0, 1) := by decide +kernel
theorem dL_law_806 : decode cL_law 806 = .ok (.ireturn, 1) := by decide +kernel
theorem dL_law_807 : decode cL_law 807 = .ok (.aload_n 1, 1) := by decide +kernel
theorem dL_law_808 : decode cL_law 808 = .ok (.aload_n 0, 1) := by decide +kernel
theorem dL_law_809 : decode cL_law 809 = .ok (.iload_n 3, 1) := by decide +kernel
theorem dL_law_810 : decode cL_law 810 = .ok (.iconst 1, 1) := by decide +kernel
theorem dL_law_811 : decode cL_law 811 = .ok (.iadd, 1) := by decide +kernel
theorem dL_law_812 : decode cL_law 812 = .ok (.iaload, 1) := by decide +kernel
theorem dL_law_813 : decode cL_law 813 = .ok (.invokevirtual 109, 3) := by decide +kernel
theorem dL_law_816 : decode cL_law 816 = .ok (.aload_n 2, 1) := by decide +kernel
theorem dL_law_817 : decode cL_law 817 = .ok (.aload_n 0, 1) := by decide +kernel
theorem dL_law_818 : decode cL_law 818 = .ok (.iload_n 3, 1) := by decide +kernel
theorem dL_law_819 : decode cL_law 819 = .ok (.iconst 1, 1) := by decide +kernel
theorem dL_law_820 : decode cL_law 820 = .ok (.iadd, 1) := by decide +kernel
theorem dL_law_821 : decode cL_law 821 = .ok (.iaload, 1) := by decide +kernel
theorem dL_law_822 : decode cL_law 822 = .ok (.invokevirtual 112, 3) := by decide +kernel
theorem dL_law_825 : decode cL_law 825 = .ok (.if_icmp .eq 203, 3) := by decide +kernel
theorem dL_law_828 : decode cL_law 828 = .ok (.iconst 0, 1) := by decide +kernel
theorem dL_law_829 : decode cL_law 829 = .ok (.ireturn, 1) := by decide +kernel
theorem dL_law_830 : decode cL_law 830 = .ok (.aload_n 1, 1) := by decide +kernel
theorem dL_law_831 : decode cL_law 831 = .ok (.aload_n 0, 1) := by decide +kernel
theorem dL_law_832 : decode cL_law 832 = .ok (.iload_n 3, 1) := by decide +kernel
theorem dL_law_833 : decode cL_law 833 = .ok (.iconst 1, 1) := by decide +kernel
theorem dL_law_834 : decode cL_law 834 = .ok (.iadd, 1) := by decide +kernel
theorem dL_law_835 : decode cL_law 835 = .ok (.iaload, 1) := by decide +kernel
theorem dL_law_836 : decode cL_law 836 = .ok (.invokevirtual 113, 3) := by decide +kernel
theorem dL_law_839 : decode cL_law 839 = .ok (.aload_n 2, 1) := by decide +kernel
theorem dL_law_840 : decode cL_law 840 = .ok (.aload_n 0, 1) := by decide +kernel
theorem dL_law_841 : decode cL_law 841 = .ok (.iload_n 3, 1) := by decide +kernel
theorem dL_law_842 : decode cL_law 842 = .ok (.iconst 1, 1) := by decide +kernel
theorem dL_law_843 : decode cL_law 843 = .ok (.iadd, 1) := by decide +kernel
theorem dL_law_844 : decode cL_law 844 = .ok (.iaload, 1) := by decide +kernel
theorem dL_law_845 : decode cL_law 845 = .ok (.invokevirtual 116, 3) := by decide +kernel
theorem dL_law_848 : decode cL_law 848 = .ok (.if_icmp .eq 180, 3) := by decide +kernel
theorem dL_law_851 : decode cL_law 851 = .ok (.iconst 0, 1) := by decide +kernel
theorem dL_law_852 : decode cL_law 852 = .ok (.ireturn, 1) := by decide +kernel
theorem dL_law_853 : decode cL_law 853 = .ok (.aload_n 1, 1) := by decide +kernel
theorem dL_law_854 : decode cL_law 854 = .ok (.aload_n 0, 1) := by decide +kernel
theorem dL_law_855 : decode cL_law 855 = .ok (.iload_n 3, 1) := by decide +kernel
theorem dL_law_856 : decode cL_law 856 = .ok (.iconst 1, 1) := by decide +kernel
theorem dL_law_857 : decode cL_law 857 = .ok (.iadd, 1) := by decide +kernel
theorem dL_law_858 : decode cL_law 858 = .ok (.iaload, 1) := by decide +kernel
theorem dL_law_859 : decode cL_law 859 = .ok (.aload_n 0, 1) := by decide +kernel
theorem dL_law_860 : decode cL_law 860 = .ok (.iload_n 3, 1) := by decide +kernel
theorem dL_law_861 : decode cL_law 861 = .ok (.iconst 2, 1) := by decide +kernel
theorem dL_law_862 : decode cL_law 862 = .ok (.iadd, 1) := by decide +kernel
theorem dL_law_863 : decode cL_law 863 = .ok (.iaload, 1) := by decide +kernel
theorem dL_law_864 : decode cL_law 864 = .ok (.aload_n 0, 1) := by decide +kernel
theorem dL_law_865 : decode cL_law 865 = .ok (.iload_n 3, 1) := by decide +kernel
theorem dL_law_866 : decode cL_law 866 = .ok (.iconst 3, 1) := by decide +kernel
theorem dL_law_867 : decode cL_law 867 = .ok (.iadd, 1) := by decide +kernel
theorem dL_law_868 : decode cL_law 868 = .ok (.iaload, 1) := by decide +kernel
theorem dL_law_869 : decode cL_law 869 = .ok (.invokevirtual 117, 3) := by decide +kernel
theorem dL_law_872 : decode cL_law 872 = .ok (.aload_n 2, 1) := by decide +kernel
theorem dL_law_873 : decode cL_law 873 = .ok (.aload_n 0, 1) := by decide +kernel
theorem dL_law_874 : decode cL_law 874 = .ok (.iload_n 3, 1) := by decide +kernel
theorem dL_law_875 : decode cL_law 875 = .ok (.iconst 1, 1) := by decide +kernel
theorem dL_law_876 : decode cL_law 876 = .ok (.iadd, 1) := by decide +kernel
theorem dL_law_877 : decode cL_law 877 = .ok (.iaload, 1) := by decide +kernel
theorem dL_law_878 : decode cL_law 878 = .ok (.aload_n 0, 1) := by decide +kernel
theorem dL_law_879 : decode cL_law 879 = .ok (.iload_n 3, 1) := by decide +kernel
theorem dL_law_880 : decode cL_law 880 = .ok (.iconst 2, 1) := by decide +kernel
theorem dL_law_881 : decode cL_law 881 = .ok (.iadd, 1) := by decide +kernel
theorem dL_law_882 : decode cL_law 882 = .ok (.iaload, 1) := by decide +kernel
theorem dL_law_883 : decode cL_law 883 = .ok (.aload_n 0, 1) := by decide +kernel
theorem dL_law_884 : decode cL_law 884 = .ok (.iload_n 3, 1) := by decide +kernel
theorem dL_law_885 : decode cL_law 885 = .ok (.iconst 3, 1) := by decide +kernel
theorem dL_law_886 : decode cL_law 886 = .ok (.iadd, 1) := by decide +kernel
theorem dL_law_887 : decode cL_law 887 = .ok (.iaload, 1) := by decide +kernel
theorem dL_law_888 : decode cL_law 888 = .ok (.invokevirtual 120, 3) := by decide +kernel
theorem dL_law_891 : decode cL_law 891 = .ok (.if_icmp .eq 137, 3) := by decide +kernel
theorem dL_law_894 : decode cL_law 894 = .ok (.iconst 0, 1) := by decide +kernel
theorem dL_law_895 : decode cL_law 895 = .ok (.ireturn, 1) := by decide +kernel
theorem dL_law_896 : decode cL_law 896 = .ok (.aload_n 1, 1) := by decide +kernel
theorem dL_law_897 : decode cL_law 897 = .ok (.aload_n 0, 1) := by decide +kernel
theorem dL_law_898 : decode cL_law 898 = .ok (.iload_n 3, 1) := by decide +kernel
theorem dL_law_899 : decode cL_law 899 = .ok (.iconst 1, 1) := by decide +kernel
theorem dL_law_900 : decode cL_law 900 = .ok (.iadd, 1) := by decide +kernel
theorem dL_law_901 : decode cL_law 901 = .ok (.iaload, 1) := by decide +kernel
theorem dL_law_902 : decode cL_law 902 = .ok (.aload_n 0, 1) := by decide +kernel
theorem dL_law_903 : decode cL_law 903 = .ok (.iload_n 3, 1) := by decide +kernel
theorem dL_law_904 : decode cL_law 904 = .ok (.iconst 2, 1) := by decide +kernel
theorem dL_law_905 : decode cL_law 905 = .ok (.iadd, 1) := by decide +kernel
theorem dL_law_906 : decode cL_law 906 = .ok (.iaload, 1) := by decide +kernel
theorem dL_law_907 : decode cL_law 907 = .ok (.aload_n 0, 1) := by decide +kernel
theorem dL_law_908 : decode cL_law 908 = .ok (.iload_n 3, 1) := by decide +kernel
theorem dL_law_909 : decode cL_law 909 = .ok (.iconst 3, 1) := by decide +kernel
theorem dL_law_910 : decode cL_law 910 = .ok (.iadd, 1) := by decide +kernel
theorem dL_law_911 : decode cL_law 911 = .ok (.iaload, 1) := by decide +kernel
theorem dL_law_912 : decode cL_law 912 = .ok (.invokevirtual 121, 3) := by decide +kernel
theorem dL_law_915 : decode cL_law 915 = .ok (.aload_n 2, 1) := by decide +kernel
theorem dL_law_916 : decode cL_law 916 = .ok (.aload_n 0, 1) := by decide +kernel
theorem dL_law_917 : decode cL_law 917 = .ok (.iload_n 3, 1) := by decide +kernel
theorem dL_law_918 : decode cL_law 918 = .ok (.iconst 1, 1) := by decide +kernel
theorem dL_law_919 : decode cL_law 919 = .ok (.iadd, 1) := by decide +kernel
theorem dL_law_920 : decode cL_law 920 = .ok (.iaload, 1) := by decide +kernel
theorem dL_law_921 : decode cL_law 921 = .ok (.aload_n 0, 1) := by decide +kernel
theorem dL_law_922 : decode cL_law 922 = .ok (.iload_n 3, 1) := by decide +kernel
theorem dL_law_923 : decode cL_law 923 = .ok (.iconst 2, 1) := by decide +kernel
theorem dL_law_924 : decode cL_law 924 = .ok (.iadd, 1) := by decide +kernel
theorem dL_law_925 : decode cL_law 925 = .ok (.iaload, 1) := by decide +kernel
theorem dL_law_926 : decode cL_law 926 = .ok (.aload_n 0, 1) := by decide +kernel
theorem dL_law_927 : decode cL_law 927 = .ok (.iload_n 3, 1) := by decide +kernel
theorem dL_law_928 : decode cL_law 928 = .ok (.iconst 3, 1) := by decide +kernel
theorem dL_law_929 : decode cL_law 929 = .ok (.iadd, 1) := by decide +kernel
theorem dL_law_930 : decode cL_law 930 = .ok (.iaload, 1) := by decide +kernel
theorem dL_law_931 : decode cL_law 931 = .ok (.invokevirtual 124, 3) := by decide +kernel
theorem dL_law_934 : decode cL_law 934 = .ok (.if_icmp .eq 94, 3) := by decide +kernel
theorem dL_law_937 : decode cL_law 937 = .ok (.iconst 0, 1) := by decide +kernel
theorem dL_law_938 : decode cL_law 938 = .ok (.ireturn, 1) := by decide +kernel
theorem dL_law_939 : decode cL_law 939 = .ok (.aload_n 1, 1) := by decide +kernel
theorem dL_law_940 : decode cL_law 940 = .ok (.aload_n 0, 1) := by decide +kernel
theorem dL_law_941 : decode cL_law 941 = .ok (.iload_n 3, 1) := by decide +kernel
theorem dL_law_942 : decode cL_law 942 = .ok (.iconst 1, 1) := by decide +kernel
theorem dL_law_943 : decode cL_law 943 = .ok (.iadd, 1) := by decide +kernel
theorem dL_law_944 : decode cL_law 944 = .ok (.iaload, 1) := by decide +kernel
theorem dL_law_945 : decode cL_law 945 = .ok (.aload_n 0, 1) := by decide +kernel
theorem dL_law_946 : decode cL_law 946 = .ok (.iload_n 3, 1) := by decide +kernel
theorem dL_law_947 : decode cL_law 947 = .ok (.iconst 2, 1) := by decide +kernel
theorem dL_law_948 : decode cL_law 948 = .ok (.iadd, 1) := by decide +kernel
theorem dL_law_949 : decode cL_law 949 = .ok (.iaload, 1) := by decide +kernel
theorem dL_law_950 : decode cL_law 950 = .ok (.aload_n 0, 1) := by decide +kernel
theorem dL_law_951 : decode cL_law 951 = .ok (.iload_n 3, 1) := by decide +kernel
theorem dL_law_952 : decode cL_law 952 = .ok (.iconst 3, 1) := by decide +kernel
theorem dL_law_953 : decode cL_law 953 = .ok (.iadd, 1) := by decide +kernel
theorem dL_law_954 : decode cL_law 954 = .ok (.iaload, 1) := by decide +kernel
theorem dL_law_955 : decode cL_law 955 = .ok (.aload_n 0, 1) := by decide +kernel
theorem dL_law_956 : decode cL_law 956 = .ok (.iload_n 3, 1) := by decide +kernel
theorem dL_law_957 : decode cL_law 957 = .ok (.iconst 4, 1) := by decide +kernel
theorem dL_law_958 : decode cL_law 958 = .ok (.iadd, 1) := by decide +kernel
theorem dL_law_959 : decode cL_law 959 = .ok (.iaload, 1) := by decide +kernel
theorem dL_law_960 : decode cL_law 960 = .ok (.invokevirtual 125, 3) := by decide +kernel
theorem dL_law_963 : decode cL_law 963 = .ok (.aload_n 2, 1) := by decide +kernel
theorem dL_law_964 : decode cL_law 964 = .ok (.aload_n 0, 1) := by decide +kernel
theorem dL_law_965 : decode cL_law 965 = .ok (.iload_n 3, 1) := by decide +kernel
theorem dL_law_966 : decode cL_law 966 = .ok (.iconst 1, 1) := by decide +kernel
theorem dL_law_967 : decode cL_law 967 = .ok (.iadd, 1) := by decide +kernel
theorem dL_law_968 : decode cL_law 968 = .ok (.iaload, 1) := by decide +kernel
theorem dL_law_969 : decode cL_law 969 = .ok (.aload_n 0, 1) := by decide +kernel
theorem dL_law_970 : decode cL_law 970 = .ok (.iload_n 3, 1) := by decide +kernel
theorem dL_law_971 : decode cL_law 971 = .ok (.iconst 2, 1) := by decide +kernel
theorem dL_law_972 : decode cL_law 972 = .ok (.iadd, 1) := by decide +kernel
theorem dL_law_973 : decode cL_law 973 = .ok (.iaload, 1) := by decide +kernel
theorem dL_law_974 : decode cL_law 974 = .ok (.aload_n 0, 1) := by decide +kernel
theorem dL_law_975 : decode cL_law 975 = .ok (.iload_n 3, 1) := by decide +kernel
theorem dL_law_976 : decode cL_law 976 = .ok (.iconst 3, 1) := by decide +kernel
theorem dL_law_977 : decode cL_law 977 = .ok (.iadd, 1) := by decide +kernel
theorem dL_law_978 : decode cL_law 978 = .ok (.iaload, 1) := by decide +kernel
theorem dL_law_979 : decode cL_law 979 = .ok (.aload_n 0, 1) := by decide +kernel
theorem dL_law_980 : decode cL_law 980 = .ok (.iload_n 3, 1) := by decide +kernel
theorem dL_law_981 : decode cL_law 981 = .ok (.iconst 4, 1) := by decide +kernel
theorem dL_law_982 : decode cL_law 982 = .ok (.iadd, 1) := by decide +kernel
theorem dL_law_983 : decode cL_law 983 = .ok (.iaload, 1) := by decide +kernel
theorem dL_law_984 : decode cL_law 984 = .ok (.invokevirtual 129, 3) := by decide +kernel
theorem dL_law_987 : decode cL_law 987 = .ok (.if_icmp .eq 41, 3) := by decide +kernel
theorem dL_law_990 : decode cL_law 990 = .ok (.iconst 0, 1) := by decide +kernel
theorem dL_law_991 : decode cL_law 991 = .ok (.ireturn, 1) := by decide +kernel
theorem dL_law_992 : decode cL_law 992 = .ok (.aload_n 1, 1) := by decide +kernel
theorem dL_law_993 : decode cL_law 993 = .ok (.invokevirtual 130, 3) := by decide +kernel
theorem dL_law_996 : decode cL_law 996 = .ok (.aload_n 2, 1) := by decide +kernel
theorem dL_law_997 : decode cL_law 997 = .ok (.invokevirtual 133, 3) := by decide +kernel
theorem dL_law_1000 : decode cL_law 1000 = .ok (.if_icmp .eq 28, 3) := by decide +kernel
theorem dL_law_1003 : decode cL_law 1003 = .ok (.iconst 0, 1) := by decide +kernel
theorem dL_law_1004 : decode cL_law 1004 = .ok (.ireturn, 1) := by decide +kernel
theorem dL_law_1005 : decode cL_law 1005 = .ok (.aload_n 1, 1) := by decide +kernel
theorem dL_law_1006 : decode cL_law 1006 = .ok (.aload_n 0, 1) := by decide +kernel
theorem dL_law_1007 : decode cL_law 1007 = .ok (.iload_n 3, 1) := by decide +kernel
theorem dL_law_1008 : decode cL_law 1008 = .ok (.iconst 1, 1) := by decide +kernel
theorem dL_law_1009 : decode cL_law 1009 = .ok (.iadd, 1) := by decide +kernel
theorem dL_law_1010 : decode cL_law 1010 = .ok (.iaload, 1) := by decide +kernel
theorem dL_law_1011 : decode cL_law 1011 = .ok (.invokevirtual 134, 3) := by decide +kernel
theorem dL_law_1014 : decode cL_law 1014 = .ok (.aload_n 2, 1) := by decide +kernel
theorem dL_law_1015 : decode cL_law 1015 = .ok (.aload_n 0, 1) := by decide +kernel
theorem dL_law_1016 : decode cL_law 1016 = .ok (.iload_n 3, 1) := by decide +kernel
theorem dL_law_1017 : decode cL_law 1017 = .ok (.iconst 1, 1) := by decide +kernel
theorem dL_law_1018 : decode cL_law 1018 = .ok (.iadd, 1) := by decide +kernel
theorem dL_law_1019 : decode cL_law 1019 = .ok (.iaload, 1) := by decide +kernel
theorem dL_law_1020 : decode cL_law 1020 = .ok (.invokevirtual 137, 3) := by decide +kernel
theorem dL_law_1023 : decode cL_law 1023 = .ok (.if_icmp .eq 5, 3) := by decide +kernel
theorem dL_law_1026 : decode cL_law 1026 = .ok (.iconst 0, 1) := by decide +kernel
theorem dL_law_1027 : decode cL_law 1027 = .ok (.ireturn, 1) := by decide +kernel
theorem dL_law_1028 : decode cL_law 1028 = .ok (.iinc 3 5, 3) := by decide +kernel
theorem dL_law_1031 : decode cL_law 1031 = .ok (.goto (-1013), 3) := by decide +kernel
theorem dL_law_1034 : decode cL_law 1034 = .ok (.iconst 1, 1) := by decide +kernel
theorem dL_law_1035 : decode cL_law 1035 = .ok (.ireturn, 1) := by decide +kernel
