theorem dX6_at_18 : decode cX6_at 18 = .ok (.istore_n 3, 1) := by decide +kernel
theorem dX6_at_19 : decode cX6_at 19 = .ok (.iconst 0, 1) := by decide +kernel
theorem dX6_at_20 : decode cX6_at 20 = .ok (.istore 4, 2) := by decide +kernel
theorem dX6_at_22 : decode cX6_at 22 = .ok (.iload 4, 2) := by decide +kernel
theorem dX6_at_24 : decode cX6_at 24 = .ok (.iconst 2, 1) := by decide +kernel
theorem dX6_at_25 : decode cX6_at 25 = .ok (.aload_n 0, 1) := by decide +kernel
theorem dX6_at_26 : decode cX6_at 26 = .ok (.getfield 38, 3) := by decide +kernel
theorem dX6_at_29 : decode cX6_at 29 = .ok (.getfield 97, 3) := by decide +kernel
theorem dX6_at_32 : decode cX6_at 32 = .ok (.imul, 1) := by decide +kernel
theorem dX6_at_33 : decode cX6_at 33 = .ok (.if_icmp .ge 36, 3) := by decide +kernel
theorem dX6_at_36 : decode cX6_at 36 = .ok (.aload_n 0, 1) := by decide +kernel
theorem dX6_at_37 : decode cX6_at 37 = .ok (.getfield 38, 3) := by decide +kernel
theorem dX6_at_40 : decode cX6_at 40 = .ok (.iload 4, 2) := by decide +kernel
theorem dX6_at_42 : decode cX6_at 42 = .ok (.invokevirtual 144, 3) := by decide +kernel
theorem dX6_at_45 : decode cX6_at 45 = .ok (.iload_n 1, 1) := by decide +kernel
theorem dX6_at_46 : decode cX6_at 46 = .ok (.if_icmp .eq 6, 3) := by decide +kernel
theorem dX6_at_49 : decode cX6_at 49 = .ok (.goto 14, 3) := by decide +kernel
theorem dX6_at_52 : decode cX6_at 52 = .ok (.iload_n 3, 1) := by decide +kernel
theorem dX6_at_53 : decode cX6_at 53 = .ok (.iload_n 2, 1) := by decide +kernel
theorem dX6_at_54 : decode cX6_at 54 = .ok (.if_icmp .ne 6, 3) := by decide +kernel
theorem dX6_at_57 : decode cX6_at 57 = .ok (.iload 4, 2) := by decide +kernel
theorem dX6_at_59 : decode cX6_at 59 = .ok (.ireturn, 1) := by decide +kernel
theorem dX6_at_60 : decode cX6_at 60 = .ok (.iinc 3 1, 3) := by decide +kernel
theorem dX6_at_63 : decode cX6_at 63 = .ok (.iinc 4 1, 3) := by decide +kernel
theorem dX6_at_66 : decode cX6_at 66 = .ok (.goto (-44), 3) := by decide +kernel
theorem dX6_at_69 : decode cX6_at 69 = .ok (.bipush (-4), 2) := by decide +kernel
theorem dX6_at_71 : decode cX6_at 71 = .ok (.ireturn, 1) := by decide +kernel
theorem dX6_beam_0 : decode cX6_beam 0 = .ok (.aload_n 0, 1) := by decide +kernel
theorem dX6_beam_1 : decode cX6_beam 1 = .ok (.getfield 38, 3) := by decide +kernel
theorem dX6_beam_4 : decode cX6_beam 4 = .ok (.iload_n 1, 1) := by decide +kernel
theorem dX6_beam_5 : decode cX6_beam 5 = .ok (.invokevirtual 148, 3) := by decide +kernel
theorem dX6_beam_8 : decode cX6_beam 8 = .ok (.ifCond .ne 5, 3) := by decide +kernel
theorem dX6_beam_11 : decode cX6_beam 11 = .ok (.iconst (-1), 1) := by decide +kernel
theorem dX6_beam_12 : decode cX6_beam 12 = .ok (.ireturn, 1) := by decide +kernel
theorem dX6_beam_13 : decode cX6_beam 13 = .ok (.iload_n 2, 1) := by decide +kernel
theorem dX6_beam_14 : decode cX6_beam 14 = .ok (.tableswitch 100 0 5 #[38, 49, 62, 72, 82, 91], 38) := by decide +kernel
theorem dX6_beam_52 : decode cX6_beam 52 = .ok (.aload_n 0, 1) := by decide +kernel
theorem dX6_beam_53 : decode cX6_beam 53 = .ok (.getfield 38, 3) := by decide +kernel
theorem dX6_beam_56 : decode cX6_beam 56 = .ok (.iconst 2, 1) := by decide +kernel
theorem dX6_beam_57 : decode cX6_beam 57 = .ok (.iload_n 1, 1) := by decide +kernel
theorem dX6_beam_58 : decode cX6_beam 58 = .ok (.imul, 1) := by decide +kernel
theorem dX6_beam_59 : decode cX6_beam 59 = .ok (.invokevirtual 144, 3) := by decide +kernel
theorem dX6_beam_62 : decode cX6_beam 62 = .ok (.ireturn, 1) := by decide +kernel
theorem dX6_beam_63 : decode cX6_beam 63 = .ok (.aload_n 0, 1) := by decide +kernel
theorem dX6_beam_64 : decode cX6_beam 64 = .ok (.getfield 38, 3) := by decide +kernel
theorem dX6_beam_67 : decode cX6_beam 67 = .ok (.iconst 2, 1) := by decide +kernel
theorem dX6_beam_68 : decode cX6_beam 68 = .ok (.iload_n 1, 1) := by decide +kernel
theorem dX6_beam_69 : decode cX6_beam 69 = .ok (.imul, 1) := by decide +kernel
theorem dX6_beam_70 : decode cX6_beam 70 = .ok (.iconst 1, 1) := by decide +kernel
theorem dX6_beam_71 : decode cX6_beam 71 = .ok (.iadd, 1) := by decide +kernel
theorem dX6_beam_72 : decode cX6_beam 72 = .ok (.invokevirtual 144, 3) := by decide +kernel
theorem dX6_beam_75 : decode cX6_beam 75 = .ok (.ireturn, 1) := by decide +kernel
theorem dX6_beam_76 : decode cX6_beam 76 = .ok (.aload_n 0, 1) := by decide +kernel
theorem dX6_beam_77 : decode cX6_beam 77 = .ok (.getfield 38, 3) := by decide +kernel
theorem dX6_beam_80 : decode cX6_beam 80 = .ok (.getfield 151, 3) := by decide +kernel
theorem dX6_beam_83 : decode cX6_beam 83 = .ok (.iload_n 1, 1) := by decide +kernel
theorem dX6_beam_84 : decode cX6_beam 84 = .ok (.iaload, 1) := by decide +kernel
theorem dX6_beam_85 : decode cX6_beam 85 = .ok (.ireturn, 1) := by decide +kernel
theorem dX6_beam_86 : decode cX6_beam 86 = .ok (.aload_n 0, 1) := by decide +kernel
theorem dX6_beam_87 : decode cX6_beam 87 = .ok (.getfield 38, 3) := by decide +kernel
theorem dX6_beam_90 : decode cX6_beam 90 = .ok (.getfield 154, 3) := by decide +kernel
theorem dX6_beam_93 : decode cX6_beam 93 = .ok (.iload_n 1, 1) := by decide +kernel
theorem dX6_beam_94 : decode cX6_beam 94 = .ok (.iaload, 1) := by decide +kernel
theorem dX6_beam_95 : decode cX6_beam 95 = .ok (.ireturn, 1) := by decide +kernel
theorem dX6_beam_96 : decode cX6_beam 96 = .ok (.aload_n 0, 1) := by decide +kernel
theorem dX6_beam_97 : decode cX6_beam 97 = .ok (.getfield 38, 3) := by decide +kernel
theorem dX6_beam_100 : decode cX6_beam 100 = .ok (.iload_n 1, 1) := by decide +kernel
theorem dX6_beam_101 : decode cX6_beam 101 = .ok (.invokevirtual 157, 3) := by decide +kernel
theorem dX6_beam_104 : decode cX6_beam 104 = .ok (.ireturn, 1) := by decide +kernel
theorem dX6_beam_105 : decode cX6_beam 105 = .ok (.aload_n 0, 1) := by decide +kernel
theorem dX6_beam_106 : decode cX6_beam 106 = .ok (.getfield 38, 3) := by decide +kernel
theorem dX6_beam_109 : decode cX6_beam 109 = .ok (.iload_n 1, 1) := by decide +kernel
theorem dX6_beam_110 : decode cX6_beam 110 = .ok (.invokevirtual 160, 3) := by decide +kernel
theorem dX6_beam_113 : decode cX6_beam 113 = .ok (.ireturn, 1) := by decide +kernel
theorem dX6_beam_114 : decode cX6_beam 114 = .ok (.iconst (-1), 1) := by decide +kernel
theorem dX6_beam_115 : decode cX6_beam 115 = .ok (.ireturn, 1) := by decide +kernel
theorem dX6_load_0 : decode cX6_load 0 = .ok (.aload_n 0, 1) := by decide +kernel
theorem dX6_load_1 : decode cX6_load 1 = .ok (.getfield 38, 3) := by decide +kernel
theorem dX6_load_4 : decode cX6_load 4 = .ok (.iload_n 1, 1) := by decide +kernel
theorem dX6_load_5 : decode cX6_load 5 = .ok (.invokevirtual 163, 3) := by decide +kernel
theorem dX6_load_8 : decode cX6_load 8 = .ok (.ifCond .ne 5, 3) := by decide +kernel
theorem dX6_load_11 : decode cX6_load 11 = .ok (.iconst (-1), 1) := by decide +kernel
theorem dX6_load_12 : decode cX6_load 12 = .ok (.ireturn, 1) := by decide +kernel
theorem dX6_load_13 : decode cX6_load 13 = .ok (.aload_n 0, 1) := by decide +kernel
theorem dX6_load_14 : decode cX6_load 14 = .ok (.getfield 38, 3) := by decide +kernel
theorem dX6_load_17 : decode cX6_load 17 = .ok (.getfield 166, 3) := by decide +kernel
theorem dX6_load_20 : decode cX6_load 20 = .ok (.iload_n 1, 1) := by decide +kernel
theorem dX6_load_21 : decode cX6_load 21 = .ok (.iaload, 1) := by decide +kernel
theorem dX6_load_22 : decode cX6_load 22 = .ok (.ifCond .le 7, 3) := by decide +kernel
theorem dX6_load_25 : decode cX6_load 25 = .ok (.iconst 1, 1) := by decide +kernel
theorem dX6_load_26 : decode cX6_load 26 = .ok (.goto 4, 3) := by decide +kernel
theorem dX6_load_29 : decode cX6_load 29 = .ok (.iconst 0, 1) := by decide +kernel
theorem dX6_load_30 : decode cX6_load 30 = .ok (.istore_n 3, 1) := by decide +kernel
theorem dX6_load_31 : decode cX6_load 31 = .ok (.iload_n 2, 1) := by decide +kernel
theorem dX6_load_32 : decode cX6_load 32 = .ok (.tableswitch 81 0 3 #[32, 42, 52, 62], 32) := by decide +kernel
theorem dX6_load_64 : decode cX6_load 64 = .ok (.aload_n 0, 1) := by decide +kernel
theorem dX6_load_65 : decode cX6_load 65 = .ok (.getfield 38, 3) := by decide +kernel
theorem dX6_load_68 : decode cX6_load 68 = .ok (.getfield 169, 3) := by decide +kernel
theorem dX6_load_71 : decode cX6_load 71 = .ok (.iload_n 1, 1) := by decide +kernel
theorem dX6_load_72 : decode cX6_load 72 = .ok (.iaload, 1) := by decide +kernel
theorem dX6_load_73 : decode cX6_load 73 = .ok (.ireturn, 1) := by decide +kernel
theorem dX6_load_74 : decode cX6_load 74 = .ok (.iload_n 3, 1) := by decide +kernel
theorem dX6_load_75 : decode cX6_load 75 = .ok (.ifCond .eq 7, 3) := by decide +kernel
theorem dX6_load_78 : decode cX6_load 78 = .ok (.iconst 1, 1) := by decide +kernel
theorem dX6_load_79 : decode cX6_load 79 = .ok (.goto 4, 3) := by decide +kernel
theorem dX6_load_82 : decode cX6_load 82 = .ok (.iconst 0, 1) := by decide +kernel
theorem dX6_load_83 : decode cX6_load 83 = .ok (.ireturn, 1) := by decide +kernel
theorem dX6_load_84 : decode cX6_load 84 = .ok (.aload_n 0, 1) := by decide +kernel
theorem dX6_load_85 : decode cX6_load 85 = .ok (.getfield 38, 3) := by decide +kernel
theorem dX6_load_88 : decode cX6_load 88 = .ok (.getfield 172, 3) := by decide +kernel
theorem dX6_load_91 : decode cX6_load 91 = .ok (.iload_n 1, 1) := by decide +kernel
theorem dX6_load_92 : decode cX6_load 92 = .ok (.iaload, 1) := by decide +kernel
theorem dX6_load_93 : decode cX6_load 93 = .ok (.ireturn, 1) := by decide +kernel
theorem dX6_load_94 : decode cX6_load 94 = .ok (.iload_n 3, 1) := by decide +kernel
theorem dX6_load_95 : decode cX6_load 95 = .ok (.ifCond .eq 15, 3) := by decide +kernel
theorem dX6_load_98 : decode cX6_load 98 = .ok (.aload_n 0, 1) := by decide +kernel
theorem dX6_load_99 : decode cX6_load 99 = .ok (.getfield 38, 3) := by decide +kernel
theorem dX6_load_102 : decode cX6_load 102 = .ok (.getfield 166, 3) := by decide +kernel
theorem dX6_load_105 : decode cX6_load 105 = .ok (.iload_n 1, 1) := by decide +kernel
theorem dX6_load_106 : decode cX6_load 106 = .ok (.iaload, 1) := by decide +kernel
theorem dX6_load_107 : decode cX6_load 107 = .ok (.goto 5, 3) := by decide +kernel
theorem dX6_load_110 : decode cX6_load 110 = .ok (.bipush (-4), 2) := by decide +kernel
theorem dX6_load_112 : decode cX6_load 112 = .ok (.ireturn, 1) := by decide +kernel
theorem dX6_load_113 : decode cX6_load 113 = .ok (.iconst (-1), 1) := by decide +kernel
theorem dX6_load_114 : decode cX6_load 114 = .ok (.ireturn, 1) := by decide +kernel
theorem dX6_moment_0 : decode cX6_moment 0 = .ok (.aload_n 0, 1) := by decide +kernel
theorem dX6_moment_1 : decode cX6_moment 1 = .ok (.getfield 38, 3) := by decide +kernel
theorem dX6_moment_4 : decode cX6_moment 4 = .ok (.iload_n 1, 1) := by decide +kernel
theorem dX6_moment_5 : decode cX6_moment 5 = .ok (.invokevirtual 175, 3) := by decide +kernel
theorem dX6_moment_8 : decode cX6_moment 8 = .ok (.ifCond .ne 6, 3) := by decide +kernel
theorem dX6_moment_11 : decode cX6_moment 11 = .ok (.ldc 137, 2) := by decide +kernel
theorem dX6_moment_13 : decode cX6_moment 13 = .ok (.ireturn, 1) := by decide +kernel
theorem dX6_moment_14 : decode cX6_moment 14 = .ok (.iload_n 2, 1) := by decide +kernel
theorem dX6_moment_15 : decode cX6_moment 15 = .ok (.tableswitch 84 0 3 #[29, 38, 48, 61], 29) := by decide +kernel
theorem dX6_moment_44 : decode cX6_moment 44 = .ok (.aload_n 0, 1) := by decide +kernel
theorem dX6_moment_45 : decode cX6_moment 45 = .ok (.getfield 38, 3) := by decide +kernel
theorem dX6_moment_48 : decode cX6_moment 48 = .ok (.iload_n 1, 1) := by decide +kernel
theorem dX6_moment_49 : decode cX6_moment 49 = .ok (.invokevirtual 178, 3) := by decide +kernel
theorem dX6_moment_52 : decode cX6_moment 52 = .ok (.ireturn, 1) := by decide +kernel
theorem dX6_moment_53 : decode cX6_moment 53 = .ok (.aload_n 0, 1) := by decide +kernel
theorem dX6_moment_54 : decode cX6_moment 54 = .ok (.getfield 24, 3) := by decide +kernel
theorem dX6_moment_57 : decode cX6_moment 57 = .ok (.getfield 181, 3) := by decide +kernel
theorem dX6_moment_60 : decode cX6_moment 60 = .ok (.iload_n 1, 1) := by decide +kernel
theorem dX6_moment_61 : decode cX6_moment 61 = .ok (.iaload, 1) := by decide +kernel
theorem dX6_moment_62 : decode cX6_moment 62 = .ok (.ireturn, 1) := by decide +kernel
theorem dX6_moment_63 : decode cX6_moment 63 = .ok (.aload_n 0, 1) := by decide +kernel
theorem dX6_moment_64 : decode cX6_moment 64 = .ok (.getfield 31, 3) := by decide +kernel
theorem dX6_moment_67 : decode cX6_moment 67 = .ok (.aload_n 0, 1) := by decide +kernel
theorem dX6_moment_68 : decode cX6_moment 68 = .ok (.getfield 38, 3) := by decide +kernel
theorem dX6_moment_71 : decode cX6_moment 71 = .ok (.iload_n 1, 1) := by decide +kernel
theorem dX6_moment_72 : decode cX6_moment 72 = .ok (.invokevirtual 184, 3) := by decide +kernel
theorem dX6_moment_75 : decode cX6_moment 75 = .ok (.ireturn, 1) := by decide +kernel
theorem dX6_moment_76 : decode cX6_moment 76 = .ok (.aload_n 0, 1) := by decide +kernel
theorem dX6_moment_77 : decode cX6_moment 77 = .ok (.getfield 24, 3) := by decide +kernel
theorem dX6_moment_80 : decode cX6_moment 80 = .ok (.getfield 181, 3) := by decide +kernel
theorem dX6_moment_83 : decode cX6_moment 83 = .ok (.iload_n 1, 1) := by decide +kernel
theorem dX6_moment_84 : decode cX6_moment 84 = .ok (.iaload, 1) := by decide +kernel
theorem dX6_moment_85 : decode cX6_moment 85 = .ok (.aload_n 0, 1) := by decide +kernel
theorem dX6_moment_86 : decode cX6_moment 86 = .ok (.getfield 31, 3) := by decide +kernel
theorem dX6_moment_89 : decode cX6_moment 89 = .ok (.aload_n 0, 1) := by decide +kernel
theorem dX6_moment_90 : decode cX6_moment 90 = .ok (.getfield 38, 3) := by decide +kernel
theorem dX6_moment_93 : decode cX6_moment 93 = .ok (.iload_n 1, 1) := by decide +kernel
theorem dX6_moment_94 : decode cX6_moment 94 = .ok (.invokevirtual 184, 3) := by decide +kernel
theorem dX6_moment_97 : decode cX6_moment 97 = .ok (.isub, 1) := by decide +kernel
theorem dX6_moment_98 : decode cX6_moment 98 = .ok (.ireturn, 1) := by decide +kernel
theorem dX6_moment_99 : decode cX6_moment 99 = .ok (.ldc 137, 2) := by decide +kernel
theorem dX6_moment_101 : decode cX6_moment 101 = .ok (.ireturn, 1) := by decide +kernel
theorem dX6_share_0 : decode cX6_share 0 = .ok (.aload_n 0, 1) := by decide +kernel
theorem dX6_share_1 : decode cX6_share 1 = .ok (.getfield 38, 3) := by decide +kernel
theorem dX6_share_4 : decode cX6_share 4 = .ok (.iload_n 1, 1) := by decide +kernel
theorem dX6_share_5 : decode cX6_share 5 = .ok (.invokevirtual 175, 3) := by decide +kernel
theorem dX6_share_8 : decode cX6_share 8 = .ok (.ifCond .eq 12, 3) := by decide +kernel
theorem dX6_share_11 : decode cX6_share 11 = .ok (.iload_n 2, 1) := by decide +kernel
theorem dX6_share_12 : decode cX6_share 12 = .ok (.ifCond .lt 8, 3) := by decide +kernel
theorem dX6_share_15 : decode cX6_share 15 = .ok (.iload_n 2, 1) := by decide +kernel
theorem dX6_share_16 : decode cX6_share 16 = .ok (.iconst 1, 1) := by decide +kernel
theorem dX6_share_17 : decode cX6_share 17 = .ok (.if_icmp .le 6, 3) := by decide +kernel
theorem dX6_share_20 : decode cX6_share 20 = .ok (.ldc 137, 2) := by decide +kernel
theorem dX6_share_22 : decode cX6_share 22 = .ok (.ireturn, 1) := by decide +kernel
theorem dX6_share_23 : decode cX6_share 23 = .ok (.aload_n 0, 1) := by decide +kernel
theorem dX6_share_24 : decode cX6_share 24 = .ok (.getfield 38, 3) := by decide +kernel
theorem dX6_share_27 : decode cX6_share 27 = .ok (.iload_n 1, 1) := by decide +kernel
theorem dX6_share_28 : decode cX6_share 28 = .ok (.invokevirtual 144, 3) := by decide +kernel
theorem dX6_share_31 : decode cX6_share 31 = .ok (.istore_n 3, 1) := by decide +kernel
theorem dX6_share_32 : decode cX6_share 32 = .ok (.aload_n 0, 1) := by decide +kernel
theorem dX6_share_33 : decode cX6_share 33 = .ok (.getfield 38, 3) := by decide +kernel
theorem dX6_share_36 : decode cX6_share 36 = .ok (.getfield 120, 3) := by decide +kernel
theorem dX6_share_39 : decode cX6_share 39 = .ok (.iload_n 3, 1) := by decide +kernel
theorem dX6_share_40 : decode cX6_share 40 = .ok (.baload, 1) := by decide +kernel
theorem dX6_share_41 : decode cX6_share 41 = .ok (.ifCond .eq 6, 3) := by decide +kernel
theorem dX6_share_44 : decode cX6_share 44 = .ok (.ldc 137, 2) := by decide +kernel
theorem dX6_share_46 : decode cX6_share 46 = .ok (.ireturn, 1) := by decide +kernel
theorem dX6_share_47 : decode cX6_share 47 = .ok (.aload_n 0, 1) := by decide +kernel
theorem dX6_share_48 : decode cX6_share 48 = .ok (.getfield 24, 3) := by decide +kernel
theorem dX6_share_51 : decode cX6_share 51 = .ok (.aload_n 0, 1) := by decide +kernel
theorem dX6_share_52 : decode cX6_share 52 = .ok (.getfield 38, 3) := by decide +kernel
theorem dX6_share_55 : decode cX6_share 55 = .ok (.iload_n 3, 1) := by decide +kernel
theorem dX6_share_56 : decode cX6_share 56 = .ok (.invokevirtual 188, 3) := by decide +kernel
theorem dX6_share_59 : decode cX6_share 59 = .ok (.iload_n 2, 1) := by decide +kernel
theorem dX6_share_60 : decode cX6_share 60 = .ok (.ifCond .ne 15, 3) := by decide +kernel
theorem dX6_share_63 : decode cX6_share 63 = .ok (.aload_n 0, 1) := by decide +kernel
theorem dX6_share_64 : decode cX6_share 64 = .ok (.getfield 24, 3) := by decide +kernel
theorem dX6_share_67 : decode cX6_share 67 = .ok (.getfield 192, 3) := by decide +kernel
theorem dX6_share_70 : decode cX6_share 70 = .ok (.iload_n 1, 1) := by decide +kernel
theorem dX6_share_71 : decode cX6_share 71 = .ok (.iaload, 1) := by decide +kernel
theorem dX6_share_72 : decode cX6_share 72 = .ok (.goto 14, 3) := by decide +kernel
theorem dX6_share_75 : decode cX6_share 75 = .ok (.aload_n 0, 1) := by decide +kernel
theorem dX6_share_76 : decode cX6_share 76 = .ok (.getfield 24, 3) := by decide +kernel
theorem dX6_share_79 : decode cX6_share 79 = .ok (.getfield 192, 3) := by decide +kernel
theorem dX6_share_82 : decode cX6_share 82 = .ok (.iload_n 1, 1) := by decide +kernel
theorem dX6_share_83 : decode cX6_share 83 = .ok (.iaload, 1) := by decide +kernel
theorem dX6_share_84 : decode cX6_share 84 = .ok (.iconst 2, 1) := by decide +kernel
theorem dX6_share_85 : decode cX6_share 85 = .ok (.idiv, 1) := by decide +kernel
theorem dX6_share_86 : decode cX6_share 86 = .ok (.ireturn, 1) := by decide +kernel
theorem dX6_rank_0 : decode cX6_rank 0 = .ok (.iload_n 1, 1) := by decide +kernel
theorem dX6_rank_1 : decode cX6_rank 1 = .ok (.ifCond .ge 7, 3) := by decide +kernel
theorem dX6_rank_4 : decode cX6_rank 4 = .ok (.iconst (-1), 1) := by decide +kernel
theorem dX6_rank_5 : decode cX6_rank 5 = .ok (.goto 15, 3) := by decide +kernel
theorem dX6_rank_8 : decode cX6_rank 8 = .ok (.aload_n 0, 1) := by decide +kernel
theorem dX6_rank_9 : decode cX6_rank 9 = .ok (.getfield 24, 3) := by decide +kernel
theorem dX6_rank_12 : decode cX6_rank 12 = .ok (.aload_n 0, 1) := by decide +kernel
theorem dX6_rank_13 : decode cX6_rank 13 = .ok (.getfield 38, 3) := by decide +kernel
theorem dX6_rank_16 : decode cX6_rank 16 = .ok (.iload_n 1, 1) := by decide +kernel
theorem dX6_rank_17 : decode cX6_rank 17 = .ok (.invokevirtual 195, 3) := by decide +kernel
theorem dX6_rank_20 : decode cX6_rank 20 = .ok (.ireturn, 1) := by decide +kernel
theorem dX6_next_0 : decode cX6_next 0 = .ok (.iload_n 1, 1) := by decide +kernel
theorem dX6_next_1 : decode cX6_next 1 = .ok (.invokestatic 198, 3) := by decide +kernel
theorem dX6_next_4 : decode cX6_next 4 = .ok (.ifCond .eq 18, 3) := by decide +kernel
theorem dX6_next_7 : decode cX6_next 7 = .ok (.aload_n 0, 1) := by decide +kernel
theorem dX6_next_8 : decode cX6_next 8 = .ok (.getfield 24, 3) := by decide +kernel
theorem dX6_next_11 : decode cX6_next 11 = .ok (.aload_n 0, 1) := by decide +kernel
theorem dX6_next_12 : decode cX6_next 12 = .ok (.getfield 38, 3) := by decide +kernel
theorem dX6_next_15 : decode cX6_next 15 = .ok (.iload_n 1, 1) := by decide +kernel
theorem dX6_next_16 : decode cX6_next 16 = .ok (.invokevirtual 201, 3) := by decide +kernel
theorem dX6_next_19 : decode cX6_next 19 = .ok (.goto 4, 3) := by decide +kernel
theorem dX6_next_22 : decode cX6_next 22 = .ok (.iconst (-1), 1) := by decide +kernel
theorem dX6_next_23 : decode cX6_next 23 = .ok (.ireturn, 1) := by decide +kernel
theorem dX6_step_0 : decode cX6_step 0 = .ok (.aload_n 0, 1) := by decide +kernel
theorem dX6_step_1 : decode cX6_step 1 = .ok (.getfield 38, 3) := by decide +kernel
theorem dX6_step_4 : decode cX6_step 4 = .ok (.iload_n 1, 1) := by decide +kernel
theorem dX6_step_5 : decode cX6_step 5 = .ok (.invokevirtual 116, 3) := by decide +kernel
theorem dX6_step_8 : decode cX6_step 8 = .ok (.ifCond .ne 5, 3) := by decide +kernel
theorem dX6_step_11 : decode cX6_step 11 = .ok (.iconst (-1), 1) := by decide +kernel
theorem dX6_step_12 : decode cX6_step 12 = .ok (.ireturn, 1) := by decide +kernel
theorem dX6_step_13 : decode cX6_step 13 = .ok (.aload_n 0, 1) := by decide +kernel
theorem dX6_step_14 : decode cX6_step 14 = .ok (.getfield 24, 3) := by decide +kernel
theorem dX6_step_17 : decode cX6_step 17 = .ok (.aload_n 0, 1) := by decide +kernel
theorem dX6_step_18 : decode cX6_step 18 = .ok (.getfield 38, 3) := by decide +kernel
theorem dX6_step_21 : decode cX6_step 21 = .ok (.iload_n 1, 1) := by decide +kernel
theorem dX6_step_22 : decode cX6_step 22 = .ok (.invokevirtual 204, 3) := by decide +kernel
theorem dX6_step_25 : decode cX6_step 25 = .ok (.ifCond .ne 6, 3) := by decide +kernel
theorem dX6_step_28 : decode cX6_step 28 = .ok (.bipush (-2), 2) := by decide +kernel
theorem dX6_step_30 : decode cX6_step 30 = .ok (.ireturn, 1) := by decide +kernel
theorem dX6_step_31 : decode cX6_step 31 = .ok (.aload_n 0, 1) := by decide +kernel
theorem dX6_step_32 : decode cX6_step 32 = .ok (.getfield 24, 3) := by decide +kernel
theorem dX6_step_35 : decode cX6_step 35 = .ok (.aload_n 0, 1) := by decide +kernel
theorem dX6_step_36 : decode cX6_step 36 = .ok (.getfield 38, 3) := by decide +kernel
theorem dX6_step_39 : decode cX6_step 39 = .ok (.iload_n 1, 1) := by decide +kernel
theorem dX6_step_40 : decode cX6_step 40 = .ok (.invokevirtual 207, 3) := by decide +kernel
theorem dX6_step_43 : decode cX6_step 43 = .ok (.aload_n 0, 1) := by decide +kernel
theorem dX6_step_44 : decode cX6_step 44 = .ok (.getfield 24, 3) := by decide +kernel
theorem dX6_step_47 : decode cX6_step 47 = .ok (.getfield 103, 3) := by decide +kernel
theorem dX6_step_50 : decode cX6_step 50 = .ok (.ireturn, 1) := by decide +kernel
theorem dX6_sweep_0 : decode cX6_sweep 0 = .ok (.iload_n 1, 1) := by decide +kernel
theorem dX6_sweep_1 : decode cX6_sweep 1 = .ok (.invokestatic 198, 3) := by decide +kernel
theorem dX6_sweep_4 : decode cX6_sweep 4 = .ok (.ifCond .eq 15, 3) := by decide +kernel
theorem dX6_sweep_7 : decode cX6_sweep 7 = .ok (.iload_n 2, 1) := by decide +kernel
theorem dX6_sweep_8 : decode cX6_sweep 8 = .ok (.iconst 1, 1) := by decide +kernel
theorem dX6_sweep_9 : decode cX6_sweep 9 = .ok (.if_icmp .lt 10, 3) := by decide +kernel
theorem dX6_sweep_12 : decode cX6_sweep 12 = .ok (.iload_n 2, 1) := by decide +kernel
theorem dX6_sweep_13 : decode cX6_sweep 13 = .ok (.sipush 200, 3) := by decide +kernel
theorem dX6_sweep_16 : decode cX6_sweep 16 = .ok (.if_icmp .le 5, 3) := by decide +kernel
theorem dX6_sweep_19 : decode cX6_sweep 19 = .ok (.iconst (-1), 1) := by decide +kernel
theorem dX6_sweep_20 : decode cX6_sweep 20 = .ok (.ireturn, 1) := by decide +kernel
theorem dX6_sweep_21 : decode cX6_sweep 21 = .ok (.iconst 0, 1) := by decide +kernel
theorem dX6_sweep_22 : decode cX6_sweep 22 = .ok (.istore_n 3, 1) := by decide +kernel
theorem dX6_sweep_23 : decode cX6_sweep 23 = .ok (.iload_n 3, 1) := by decide +kernel
theorem dX6_sweep_24 : decode cX6_sweep 24 = .ok (.iload_n 2, 1) := by decide +kernel
theorem dX6_sweep_25 : decode cX6_sweep 25 = .ok (.if_icmp .ge 43, 3) := by decide +kernel
theorem dX6_sweep_28 : decode cX6_sweep 28 = .ok (.aload_n 0, 1) := by decide +kernel
theorem dX6_sweep_29 : decode cX6_sweep 29 = .ok (.getfield 24, 3) := by decide +kernel
theorem dX6_sweep_32 : decode cX6_sweep 32 = .ok (.aload_n 0, 1) := by decide +kernel
theorem dX6_sweep_33 : decode cX6_sweep 33 = .ok (.getfield 38, 3) := by decide +kernel
theorem dX6_sweep_36 : decode cX6_sweep 36 = .ok (.iload_n 1, 1) := by decide +kernel
theorem dX6_sweep_37 : decode cX6_sweep 37 = .ok (.invokevirtual 201, 3) := by decide +kernel
theorem dX6_sweep_40 : decode cX6_sweep 40 = .ok (.istore 4, 2) := by decide +kernel
theorem dX6_sweep_42 : decode cX6_sweep 42 = .ok (.iload 4, 2) := by decide +kernel
theorem dX6_sweep_44 : decode cX6_sweep 44 = .ok (.ifCond .ge 5, 3) := by decide +kernel
theorem dX6_sweep_47 : decode cX6_sweep 47 = .ok (.iload_n 3, 1) := by decide +kernel
theorem dX6_sweep_48 : decode cX6_sweep 48 = .ok (.ireturn, 1) := by decide +kernel
theorem dX6_sweep_49 : decode cX6_sweep 49 = .ok (.aload_n 0, 1) := by decide +kernel
theorem dX6_sweep_50 : decode cX6_sweep 50 = .ok (.getfield 24, 3) := by decide +kernel
theorem dX6_sweep_53 : decode cX6_sweep 53 = .ok (.aload_n 0, 1) := by decide +kernel
theorem dX6_sweep_54 : decode cX6_sweep 54 = .ok (.getfield 38, 3) := by decide +kernel
theorem dX6_sweep_57 : decode cX6_sweep 57 = .ok (.iload 4, 2) := by decide +kernel
theorem dX6_sweep_59 : decode cX6_sweep 59 = .ok (.invokevirtual 207, 3) := by decide +kernel
theorem dX6_sweep_62 : decode cX6_sweep 62 = .ok (.iinc 3 1, 3) := by decide +kernel
theorem dX6_sweep_65 : decode cX6_sweep 65 = .ok (.goto (-42), 3) := by decide +kernel
theorem dX6_sweep_68 : decode cX6_sweep 68 = .ok (.iload_n 2, 1) := by decide +kernel
theorem dX6_sweep_69 : decode cX6_sweep 69 = .ok (.ireturn, 1) := by decide +kernel
theorem dX6_begin_0 : decode cX6_begin 0 = .ok (.aload_n 0, 1) := by decide +kernel
theorem dX6_begin_1 : decode cX6_begin 1 = .ok (.getfield 24, 3) := by decide +kernel
theorem dX6_begin_4 : decode cX6_begin 4 = .ok (.getfield 103, 3) := by decide +kernel
theorem dX6_begin_7 : decode cX6_begin 7 = .ok (.istore_n 1, 1) := by decide +kernel
theorem dX6_begin_8 : decode cX6_begin 8 = .ok (.aload_n 0, 1) := by decide +kernel
theorem dX6_begin_9 : decode cX6_begin 9 = .ok (.getfield 24, 3) := by decide +kernel
theorem dX6_begin_12 : decode cX6_begin 12 = .ok (.aload_n 0, 1) := by decide +kernel
theorem dX6_begin_13 : decode cX6_begin 13 = .ok (.getfield 38, 3) := by decide +kernel
theorem dX6_begin_16 : decode cX6_begin 16 = .ok (.invokevirtual 83, 3) := by decide +kernel
theorem dX6_begin_19 : decode cX6_begin 19 = .ok (.iload_n 1, 1) := by decide +kernel
theorem dX6_begin_20 : decode cX6_begin 20 = .ok (.ireturn, 1) := by decide +kernel
theorem dX6_couple_0 : decode cX6_couple 0 = .ok (.aload_n 0, 1) := by decide +kernel
theorem dX6_couple_1 : decode cX6_couple 1 = .ok (.iload_n 1, 1) := by decide +kernel
theorem dX6_couple_2 : decode cX6_couple 2 = .ok (.iload_n 2, 1) := by decide +kernel
theorem dX6_couple_3 : decode cX6_couple 3 = .ok (.invokevirtual 210, 3) := by decide +kernel
theorem dX6_couple_6 : decode cX6_couple 6 = .ok (.ifCond .ne 5, 3) := by decide +kernel
theorem dX6_couple_9 : decode cX6_couple 9 = .ok (.iconst (-1), 1) := by decide +kernel
theorem dX6_couple_10 : decode cX6_couple 10 = .ok (.ireturn, 1) := by decide +kernel
theorem dX6_couple_11 : decode cX6_couple 11 = .ok (.aload_n 0, 1) := by decide +kernel
theorem dX6_couple_12 : decode cX6_couple 12 = .ok (.getfield 38, 3) := by decide +kernel
theorem dX6_couple_15 : decode cX6_couple 15 = .ok (.getfield 138, 3) := by decide +kernel
theorem dX6_couple_18 : decode cX6_couple 18 = .ok (.iload_n 1, 1) := by decide +kernel
theorem dX6_couple_19 : decode cX6_couple 19 = .ok (.iload_n 2, 1) := by decide +kernel
theorem dX6_couple_20 : decode cX6_couple 20 = .ok (.iastore, 1) := by decide +kernel
theorem dX6_couple_21 : decode cX6_couple 21 = .ok (.aload_n 0, 1) := by decide +kernel
theorem dX6_couple_22 : decode cX6_couple 22 = .ok (.getfield 24, 3) := by decide +kernel
theorem dX6_couple_25 : decode cX6_couple 25 = .ok (.aload_n 0, 1) := by decide +kernel
theorem dX6_couple_26 : decode cX6_couple 26 = .ok (.getfield 38, 3) := by decide +kernel
theorem dX6_couple_29 : decode cX6_couple 29 = .ok (.invokevirtual 83, 3) := by decide +kernel
theorem dX6_couple_32 : decode cX6_couple 32 = .ok (.iconst 1, 1) := by decide +kernel
theorem dX6_couple_33 : decode cX6_couple 33 = .ok (.ireturn, 1) := by decide +kernel
theorem dX6_hold_0 : decode cX6_hold 0 = .ok (.aload_n 0, 1) := by decide +kernel
theorem dX6_hold_1 : decode cX6_hold 1 = .ok (.getfield 38, 3) := by decide +kernel
theorem dX6_hold_4 : decode cX6_hold 4 = .ok (.iload_n 1, 1) := by decide +kernel
theorem dX6_hold_5 : decode cX6_hold 5 = .ok (.invokevirtual 116, 3) := by decide +kernel
theorem dX6_hold_8 : decode cX6_hold 8 = .ok (.ifCond .eq 12, 3) := by decide +kernel
theorem dX6_hold_11 : decode cX6_hold 11 = .ok (.iload_n 2, 1) := by decide +kernel
theorem dX6_hold_12 : decode cX6_hold 12 = .ok (.ifCond .lt 8, 3) := by decide +kernel
theorem dX6_hold_15 : decode cX6_hold 15 = .ok (.iload_n 2, 1) := by decide +kernel
theorem dX6_hold_16 : decode cX6_hold 16 = .ok (.iconst 1, 1) := by decide +kernel
theorem dX6_hold_17 : decode cX6_hold 17 = .ok (.if_icmp .le 5, 3) := by decide +kernel
theorem dX6_hold_20 : decode cX6_hold 20 = .ok (.iconst (-1), 1) := by decide +kernel
theorem dX6_hold_21 : decode cX6_hold 21 = .ok (.ireturn, 1) := by decide +kernel
theorem dX6_hold_22 : decode cX6_hold 22 = .ok (.aload_n 0, 1) := by decide +kernel
theorem dX6_hold_23 : decode cX6_hold 23 = .ok (.getfield 38, 3) := by decide +kernel
theorem dX6_hold_26 : decode cX6_hold 26 = .ok (.getfield 120, 3) := by decide +kernel
theorem dX6_hold_29 : decode cX6_hold 29 = .ok (.iload_n 1, 1) := by decide +kernel
theorem dX6_hold_30 : decode cX6_hold 30 = .ok (.baload, 1) := by decide +kernel
theorem dX6_hold_31 : decode cX6_hold 31 = .ok (.istore_n 3, 1) := by decide +kernel
theorem dX6_hold_32 : decode cX6_hold 32 = .ok (.iload_n 3, 1) := by decide +kernel
theorem dX6_hold_33 : decode cX6_hold 33 = .ok (.ifCond .eq 21, 3) := by decide +kernel
theorem dX6_hold_36 : decode cX6_hold 36 = .ok (.iload_n 2, 1) := by decide +kernel
theorem dX6_hold_37 : decode cX6_hold 37 = .ok (.ifCond .ne 17, 3) := by decide +kernel
theorem dX6_hold_40 : decode cX6_hold 40 = .ok (.aload_n 0, 1) := by decide +kernel
theorem dX6_hold_41 : decode cX6_hold 41 = .ok (.getfield 38, 3) := by decide +kernel
theorem dX6_hold_44 : decode cX6_hold 44 = .ok (.invokevirtual 93, 3) := by decide +kernel
theorem dX6_hold_47 : decode cX6_hold 47 = .ok (.iconst 4, 1) := by decide +kernel
theorem dX6_hold_48 : decode cX6_hold 48 = .ok (.if_icmp .lt 6, 3) := by decide +kernel
theorem dX6_hold_51 : decode cX6_hold 51 = .ok (.bipush (-3), 2) := by decide +kernel
theorem dX6_hold_53 : decode cX6_hold 53 = .ok (.ireturn, 1) := by decide +kernel
theorem dX6_hold_54 : decode cX6_hold 54 = .ok (.aload_n 0, 1) := by decide +kernel
theorem dX6_hold_55 : decode cX6_hold 55 = .ok (.getfield 38, 3) := by decide +kernel
theorem dX6_hold_58 : decode cX6_hold 58 = .ok (.getfield 120, 3) := by decide +kernel
theorem dX6_hold_61 : decode cX6_hold 61 = .ok (.iload_n 1, 1) := by decide +kernel
theorem dX6_hold_62 : decode cX6_hold 62 = .ok (.iload_n 2, 1) := by decide +kernel
theorem dX6_hold_63 : decode cX6_hold 63 = .ok (.iconst 1, 1) := by decide +kernel
theorem dX6_hold_64 : decode cX6_hold 64 = .ok (.if_icmp .ne 7, 3) := by decide +kernel
theorem dX6_hold_67 : decode cX6_hold 67 = .ok (.iconst 1, 1) := by decide +kernel
theorem dX6_hold_68 : decode cX6_hold 68 = .ok (.goto 4, 3) := by decide +kernel
theorem dX6_hold_71 : decode cX6_hold 71 = .ok (.iconst 0, 1) := by decide +kernel
theorem dX6_hold_72 : decode cX6_hold 72 = .ok (.bastore, 1) := by decide +kernel
theorem dX6_hold_73 : decode cX6_hold 73 = .ok (.aload_n 0, 1) := by decide +kernel
theorem dX6_hold_74 : decode cX6_hold 74 = .ok (.getfield 24, 3) := by decide +kernel
theorem dX6_hold_77 : decode cX6_hold 77 = .ok (.aload_n 0, 1) := by decide +kernel
theorem dX6_hold_78 : decode cX6_hold 78 = .ok (.getfield 38, 3) := by decide +kernel
theorem dX6_hold_81 : decode cX6_hold 81 = .ok (.invokevirtual 83, 3) := by decide +kernel
theorem dX6_hold_84 : decode cX6_hold 84 = .ok (.iload_n 3, 1) := by decide +kernel
theorem dX6_hold_85 : decode cX6_hold 85 = .ok (.ifCond .eq 7, 3) := by decide +kernel
theorem dX6_hold_88 : decode cX6_hold 88 = .ok (.iconst 1, 1) := by decide +kernel
theorem dX6_hold_89 : decode cX6_hold 89 = .ok (.goto 4, 3) := by decide +kernel
theorem dX6_hold_92 : decode cX6_hold 92 = .ok (.iconst 0, 1) := by decide +kernel
theorem dX6_hold_93 : decode cX6_hold 93 = .ok (.ireturn, 1) := by decide +kernel
theorem dX6_stiffen_0 : decode cX6_stiffen 0 = .ok (.aload_n 0, 1) := by decide +kernel
theorem dX6_stiffen_1 : decode cX6_stiffen 1 = .ok (.getfield 38, 3) := by decide +kernel
theorem dX6_stiffen_4 : decode cX6_stiffen 4 = .ok (.iload_n 1, 1) := by decide +kernel
theorem dX6_stiffen_5 : decode cX6_stiffen 5 = .ok (.invokevirtual 148, 3) := by decide +kernel
theorem dX6_stiffen_8 : decode cX6_stiffen 8 = .ok (.ifCond .eq 14, 3) := by decide +kernel
theorem dX6_stiffen_11 : decode cX6_stiffen 11 = .ok (.iload_n 2, 1) := by decide +kernel
theorem dX6_stiffen_12 : decode cX6_stiffen 12 = .ok (.iconst 1, 1) := by decide +kernel
theorem dX6_stiffen_13 : decode cX6_stiffen 13 = .ok (.if_icmp .lt 9, 3) := by decide +kernel
theorem dX6_stiffen_16 : decode cX6_stiffen 16 = .ok (.iload_n 2, 1) := by decide +kernel
theorem dX6_stiffen_17 : decode cX6_stiffen 17 = .ok (.bipush 10, 2) := by decide +kernel
theorem dX6_stiffen_19 : decode cX6_stiffen 19 = .ok (.if_icmp .le 5, 3) := by decide +kernel
theorem dX6_stiffen_22 : decode cX6_stiffen 22 = .ok (.iconst (-1), 1) := by decide +kernel
theorem dX6_stiffen_23 : decode cX6_stiffen 23 = .ok (.ireturn, 1) := by decide +kernel
theorem dX6_stiffen_24 : decode cX6_stiffen 24 = .ok (.aload_n 0, 1) := by decide +kernel
theorem dX6_stiffen_25 : decode cX6_stiffen 25 = .ok (.getfield 38, 3) := by decide +kernel
theorem dX6_stiffen_28 : decode cX6_stiffen 28 = .ok (.getfield 154, 3) := by decide +kernel
theorem dX6_stiffen_31 : decode cX6_stiffen 31 = .ok (.iload_n 1, 1) := by decide +kernel
theorem dX6_stiffen_32 : decode cX6_stiffen 32 = .ok (.iaload, 1) := by decide +kernel
theorem dX6_stiffen_33 : decode cX6_stiffen 33 = .ok (.istore_n 3, 1) := by decide +kernel
theorem dX6_stiffen_34 : decode cX6_stiffen 34 = .ok (.aload_n 0, 1) := by decide +kernel
theorem dX6_stiffen_35 : decode cX6_stiffen 35 = .ok (.getfield 38, 3) := by decide +kernel
theorem dX6_stiffen_38 : decode cX6_stiffen 38 = .ok (.getfield 154, 3) := by decide +kernel
theorem dX6_stiffen_41 : decode cX6_stiffen 41 = .ok (.iload_n 1, 1) := by decide +kernel
theorem dX6_stiffen_42 : decode cX6_stiffen 42 = .ok (.iload_n 2, 1) := by decide +kernel
theorem dX6_stiffen_43 : decode cX6_stiffen 43 = .ok (.iastore, 1) := by decide +kernel
theorem dX6_stiffen_44 : decode cX6_stiffen 44 = .ok (.aload_n 0, 1) := by decide +kernel
theorem dX6_stiffen_45 : decode cX6_stiffen 45 = .ok (.getfield 24, 3) := by decide +kernel
theorem dX6_stiffen_48 : decode cX6_stiffen 48 = .ok (.aload_n 0, 1) := by decide +kernel
theorem dX6_stiffen_49 : decode cX6_stiffen 49 = .ok (.getfield 38, 3) := by decide +kernel
theorem dX6_stiffen_52 : decode cX6_stiffen 52 = .ok (.invokevirtual 83, 3) := by decide +kernel
theorem dX6_stiffen_55 : decode cX6_stiffen 55 = .ok (.iload_n 3, 1) := by decide +kernel
theorem dX6_stiffen_56 : decode cX6_stiffen 56 = .ok (.ireturn, 1) := by decide +kernel
theorem dX6_put_0 : decode cX6_put 0 = .ok (.aload_n 0, 1) := by decide +kernel
theorem dX6_put_1 : decode cX6_put 1 = .ok (.getfield 38, 3) := by decide +kernel
theorem dX6_put_4 : decode cX6_put 4 = .ok (.iload_n 1, 1) := by decide +kernel
theorem dX6_put_5 : decode cX6_put 5 = .ok (.invokevirtual 148, 3) := by decide +kernel
theorem dX6_put_8 : decode cX6_put 8 = .ok (.ifCond .eq 20, 3) := by decide +kernel
theorem dX6_put_11 : decode cX6_put 11 = .ok (.iload_n 3, 1) := by decide +kernel
theorem dX6_put_12 : decode cX6_put 12 = .ok (.ifCond .lt 16, 3) := by decide +kernel
theorem dX6_put_15 : decode cX6_put 15 = .ok (.iload_n 3, 1) := by decide +kernel
theorem dX6_put_16 : decode cX6_put 16 = .ok (.aload_n 0, 1) := by decide +kernel
theorem dX6_put_17 : decode cX6_put 17 = .ok (.getfield 38, 3) := by decide +kernel
theorem dX6_put_20 : decode cX6_put 20 = .ok (.getfield 151, 3) := by decide +kernel
theorem dX6_put_23 : decode cX6_put 23 = .ok (.iload_n 1, 1) := by decide +kernel
theorem dX6_put_24 : decode cX6_put 24 = .ok (.iaload, 1) := by decide +kernel
theorem dX6_put_25 : decode cX6_put 25 = .ok (.if_icmp .lt 5, 3) := by decide +kernel
theorem dX6_put_28 : decode cX6_put 28 = .ok (.iconst (-1), 1) := by decide +kernel
theorem dX6_put_29 : decode cX6_put 29 = .ok (.ireturn, 1) := by decide +kernel
theorem dX6_put_30 : decode cX6_put 30 = .ok (.iload_n 2, 1) := by decide +kernel
theorem dX6_put_31 : decode cX6_put 31 = .ok (.iconst 1, 1) := by decide +kernel
theorem dX6_put_32 : decode cX6_put 32 = .ok (.if_icmp .lt 19, 3) := by decide +kernel
theorem dX6_put_35 : decode cX6_put 35 = .ok (.iload_n 2, 1) := by decide +kernel
theorem dX6_put_36 : decode cX6_put 36 = .ok (.iload_n 3, 1) := by decide +kernel
theorem dX6_put_37 : decode cX6_put 37 = .ok (.ifCond .ne 8, 3) := by decide +kernel
theorem dX6_put_40 : decode cX6_put 40 = .ok (.bipush 99, 2) := by decide +kernel
theorem dX6_put_42 : decode cX6_put 42 = .ok (.goto 6, 3) := by decide +kernel
theorem dX6_put_45 : decode cX6_put 45 = .ok (.sipush 999, 3) := by decide +kernel
theorem dX6_put_48 : decode cX6_put 48 = .ok (.if_icmp .le 5, 3) := by decide +kernel
theorem dX6_put_51 : decode cX6_put 51 = .ok (.iconst (-1), 1) := by decide +kernel
theorem dX6_put_52 : decode cX6_put 52 = .ok (.ireturn, 1) := by decide +kernel
theorem dX6_put_53 : decode cX6_put 53 = .ok (.aload_n 0, 1) := by decide +kernel
theorem dX6_put_54 : decode cX6_put 54 = .ok (.getfield 38, 3) := by decide +kernel
theorem dX6_put_57 : decode cX6_put 57 = .ok (.getfield 100, 3) := by decide +kernel
theorem dX6_put_60 : decode cX6_put 60 = .ok (.bipush 8, 2) := by decide +kernel
theorem dX6_put_62 : decode cX6_put 62 = .ok (.if_icmp .lt 6, 3) := by decide +kernel
theorem dX6_put_65 : decode cX6_put 65 = .ok (.bipush (-3), 2) := by decide +kernel
theorem dX6_put_67 : decode cX6_put 67 = .ok (.ireturn, 1) := by decide +kernel
theorem dX6_put_68 : decode cX6_put 68 = .ok (.aload_n 0, 1) := by decide +kernel
theorem dX6_put_69 : decode cX6_put 69 = .ok (.getfield 38, 3) := by decide +kernel
theorem dX6_put_72 : decode cX6_put 72 = .ok (.iload_n 1, 1) := by decide +kernel
theorem dX6_put_73 : decode cX6_put 73 = .ok (.iload_n 2, 1) := by decide +kernel
theorem dX6_put_74 : decode cX6_put 74 = .ok (.iload_n 3, 1) := by decide +kernel
theorem dX6_put_75 : decode cX6_put 75 = .ok (.invokevirtual 214, 3) := by decide +kernel
theorem dX6_put_78 : decode cX6_put 78 = .ok (.aload_n 0, 1) := by decide +kernel
theorem dX6_put_79 : decode cX6_put 79 = .ok (.getfield 24, 3) := by decide +kernel
theorem dX6_put_82 : decode cX6_put 82 = .ok (.aload_n 0, 1) := by decide +kernel
theorem dX6_put_83 : decode cX6_put 83 = .ok (.getfield 38, 3) := by decide +kernel
theorem dX6_put_86 : decode cX6_put 86 = .ok (.invokevirtual 83, 3) := by decide +kernel
theorem dX6_put_89 : decode cX6_put 89 = .ok (.aload_n 0, 1) := by decide +kernel
theorem dX6_put_90 : decode cX6_put 90 = .ok (.getfield 38, 3) := by decide +kernel
theorem dX6_put_93 : decode cX6_put 93 = .ok (.getfield 100, 3) := by decide +kernel
theorem dX6_put_96 : decode cX6_put 96 = .ok (.ireturn, 1) := by decide +kernel
theorem dX6_lift_0 : decode cX6_lift 0 = .ok (.aload_n 0, 1) := by decide +kernel
theorem dX6_lift_1 : decode cX6_lift 1 = .ok (.getfield 38, 3) := by decide +kernel
theorem dX6_lift_4 : decode cX6_lift 4 = .ok (.iload_n 1, 1) := by decide +kernel
theorem dX6_lift_5 : decode cX6_lift 5 = .ok (.invokevirtual 163, 3) := by decide +kernel
theorem dX6_lift_8 : decode cX6_lift 8 = .ok (.ifCond .ne 5, 3) := by decide +kernel
theorem dX6_lift_11 : decode cX6_lift 11 = .ok (.iconst (-1), 1) := by decide +kernel
theorem dX6_lift_12 : decode cX6_lift 12 = .ok (.ireturn, 1) := by decide +kernel
theorem dX6_lift_13 : decode cX6_lift 13 = .ok (.aload_n 0, 1) := by decide +kernel
theorem dX6_lift_14 : decode cX6_lift 14 = .ok (.getfield 38, 3) := by decide +kernel
theorem dX6_lift_17 : decode cX6_lift 17 = .ok (.iload_n 1, 1) := by decide +kernel
theorem dX6_lift_18 : decode cX6_lift 18 = .ok (.invokevirtual 218, 3) := by decide +kernel
theorem dX6_lift_21 : decode cX6_lift 21 = .ok (.aload_n 0, 1) := by decide +kernel
theorem dX6_lift_22 : decode cX6_lift 22 = .ok (.getfield 24, 3) := by decide +kernel
theorem dX6_lift_25 : decode cX6_lift 25 = .ok (.aload_n 0, 1) := by decide +kernel
theorem dX6_lift_26 : decode cX6_lift 26 = .ok (.getfield 38, 3) := by decide +kernel
theorem dX6_lift_29 : decode cX6_lift 29 = .ok (.invokevirtual 83, 3) := by decide +kernel
theorem dX6_lift_32 : decode cX6_lift 32 = .ok (.aload_n 0, 1) := by decide +kernel
theorem dX6_lift_33 : decode cX6_lift 33 = .ok (.getfield 38, 3) := by decide +kernel
theorem dX6_lift_36 : decode cX6_lift 36 = .ok (.getfield 100, 3) := by decide +kernel
theorem dX6_lift_39 : decode cX6_lift 39 = .ok (.ireturn, 1) := by decide +kernel
theorem dX6_fall_0 : decode cX6_fall 0 = .ok (.iload_n 2, 1) := by decide +kernel
theorem dX6_fall_1 : decode cX6_fall 1 = .ok (.iconst 1, 1) := by decide +kernel
theorem dX6_fall_2 : decode cX6_fall 2 = .ok (.if_icmp .lt 9, 3) := by decide +kernel
theorem dX6_fall_5 : decode cX6_fall 5 = .ok (.iload_n 2, 1) := by decide +kernel
theorem dX6_fall_6 : decode cX6_fall 6 = .ok (.bipush 8, 2) := by decide +kernel
theorem dX6_fall_8 : decode cX6_fall 8 = .ok (.if_icmp .le 5, 3) := by decide +kernel
theorem dX6_fall_11 : decode cX6_fall 11 = .ok (.iconst (-1), 1) := by decide +kernel
theorem dX6_fall_12 : decode cX6_fall 12 = .ok (.ireturn, 1) := by decide +kernel
theorem dX6_fall_13 : decode cX6_fall 13 = .ok (.aload_n 0, 1) := by decide +kernel
theorem dX6_fall_14 : decode cX6_fall 14 = .ok (.getfield 38, 3) := by decide +kernel
theorem dX6_fall_17 : decode cX6_fall 17 = .ok (.getfield 97, 3) := by decide +kernel
theorem dX6_fall_20 : decode cX6_fall 20 = .ok (.ifCond .ne 6, 3) := by decide +kernel
theorem dX6_fall_23 : decode cX6_fall 23 = .ok (.bipush (-2), 2) := by decide +kernel
theorem dX6_fall_25 : decode cX6_fall 25 = .ok (.ireturn, 1) := by decide +kernel
theorem dX6_fall_26 : decode cX6_fall 26 = .ok (.iload_n 1, 1) := by decide +kernel
theorem dX6_fall_27 : decode cX6_fall 27 = .ok (.istore_n 3, 1) := by decide +kernel
theorem dX6_fall_28 : decode cX6_fall 28 = .ok (.iconst 0, 1) := by decide +kernel
theorem dX6_fall_29 : decode cX6_fall 29 = .ok (.istore 4, 2) := by decide +kernel
theorem dX6_fall_31 : decode cX6_fall 31 = .ok (.iload 4, 2) := by decide +kernel
theorem dX6_fall_33 : decode cX6_fall 33 = .ok (.iload_n 2, 1) := by decide +kernel
theorem dX6_fall_34 : decode cX6_fall 34 = .ok (.if_icmp .ge 45, 3) := by decide +kernel
theorem dX6_fall_37 : decode cX6_fall 37 = .ok (.aload_n 0, 1) := by decide +kernel
theorem dX6_fall_38 : decode cX6_fall 38 = .ok (.getfield 38, 3) := by decide +kernel
theorem dX6_fall_41 : decode cX6_fall 41 = .ok (.getfield 100, 3) := by decide +kernel
theorem dX6_fall_44 : decode cX6_fall 44 = .ok (.bipush 8, 2) := by decide +kernel
theorem dX6_fall_46 : decode cX6_fall 46 = .ok (.if_icmp .ge 33, 3) := by decide +kernel
theorem dX6_fall_49 : decode cX6_fall 49 = .ok (.iload_n 3, 1) := by decide +kernel
theorem dX6_fall_50 : decode cX6_fall 50 = .ok (.ldc 221, 2) := by decide +kernel
theorem dX6_fall_52 : decode cX6_fall 52 = .ok (.imul, 1) := by decide +kernel
theorem dX6_fall_53 : decode cX6_fall 53 = .ok (.sipush 12345, 3) := by decide +kernel
theorem dX6_fall_56 : decode cX6_fall 56 = .ok (.iadd, 1) := by decide +kernel
theorem dX6_fall_57 : decode cX6_fall 57 = .ok (.istore_n 3, 1) := by decide +kernel
theorem dX6_fall_58 : decode cX6_fall 58 = .ok (.aload_n 0, 1) := by decide +kernel
theorem dX6_fall_59 : decode cX6_fall 59 = .ok (.getfield 38, 3) := by decide +kernel
theorem dX6_fall_62 : decode cX6_fall 62 = .ok (.iload_n 3, 1) := by decide +kernel
theorem dX6_fall_63 : decode cX6_fall 63 = .ok (.bipush 16, 2) := by decide +kernel
theorem dX6_fall_65 : decode cX6_fall 65 = .ok (.iushr, 1) := by decide +kernel
theorem dX6_fall_66 : decode cX6_fall 66 = .ok (.sipush 32767, 3) := by decide +kernel
theorem dX6_fall_69 : decode cX6_fall 69 = .ok (.iand, 1) := by decide +kernel
theorem dX6_fall_70 : decode cX6_fall 70 = .ok (.invokevirtual 222, 3) := by decide +kernel
theorem dX6_fall_73 : decode cX6_fall 73 = .ok (.iinc 4 1, 3) := by decide +kernel
theorem dX6_fall_76 : decode cX6_fall 76 = .ok (.goto (-45), 3) := by decide +kernel
theorem dX6_fall_79 : decode cX6_fall 79 = .ok (.iload 4, 2) := by decide +kernel
theorem dX6_fall_81 : decode cX6_fall 81 = .ok (.ifCond .le 14, 3) := by decide +kernel
theorem dX6_fall_84 : decode cX6_fall 84 = .ok (.aload_n 0, 1) := by decide +kernel
theorem dX6_fall_85 : decode cX6_fall 85 = .ok (.getfield 24, 3) := by decide +kernel
theorem dX6_fall_88 : decode cX6_fall 88 = .ok (.aload_n 0, 1) := by decide +kernel
theorem dX6_fall_89 : decode cX6_fall 89 = .ok (.getfield 38, 3) := by decide +kernel
theorem dX6_fall_92 : decode cX6_fall 92 = .ok (.invokevirtual 83, 3) := by decide +kernel
theorem dX6_fall_95 : decode cX6_fall 95 = .ok (.iload 4, 2) := by decide +kernel
theorem dX6_fall_97 : decode cX6_fall 97 = .ok (.ireturn, 1) := by decide +kernel
theorem dX6_keep_0 : decode cX6_keep 0 = .ok (.iload_n 1, 1) := by decide +kernel
theorem dX6_keep_1 : decode cX6_keep 1 = .ok (.invokestatic 225, 3) := by decide +kernel
theorem dX6_keep_4 : decode cX6_keep 4 = .ok (.ifCond .ne 5, 3) := by decide +kernel
theorem dX6_keep_7 : decode cX6_keep 7 = .ok (.iconst (-1), 1) := by decide +kernel
theorem dX6_keep_8 : decode cX6_keep 8 = .ok (.ireturn, 1) := by decide +kernel
theorem dX6_keep_9 : decode cX6_keep 9 = .ok (.aload_n 0, 1) := by decide +kernel
theorem dX6_keep_10 : decode cX6_keep 10 = .ok (.getfield 49, 3) := by decide +kernel
theorem dX6_keep_13 : decode cX6_keep 13 = .ok (.iload_n 1, 1) := by decide +kernel
theorem dX6_keep_14 : decode cX6_keep 14 = .ok (.baload, 1) := by decide +kernel
theorem dX6_keep_15 : decode cX6_keep 15 = .ok (.ifCond .eq 7, 3) := by decide +kernel
theorem dX6_keep_18 : decode cX6_keep 18 = .ok (.iconst 1, 1) := by decide +kernel
theorem dX6_keep_19 : decode cX6_keep 19 = .ok (.goto 4, 3) := by decide +kernel
theorem dX6_keep_22 : decode cX6_keep 22 = .ok (.iconst 0, 1) := by decide +kernel
theorem dX6_keep_23 : decode cX6_keep 23 = .ok (.istore_n 2, 1) := by decide +kernel
theorem dX6_keep_24 : decode cX6_keep 24 = .ok (.aload_n 0, 1) := by decide +kernel
theorem dX6_keep_25 : decode cX6_keep 25 = .ok (.getfield 45, 3) := by decide +kernel
theorem dX6_keep_28 : decode cX6_keep 28 = .ok (.iload_n 1, 1) := by decide +kernel
theorem dX6_keep_29 : decode cX6_keep 29 = .ok (.aaload, 1) := by decide +kernel
theorem dX6_keep_30 : decode cX6_keep 30 = .ok (.aload_n 0, 1) := by decide +kernel
theorem dX6_keep_31 : decode cX6_keep 31 = .ok (.getfield 38, 3) := by decide +kernel
theorem dX6_keep_34 : decode cX6_keep 34 = .ok (.invokevirtual 228, 3) := by decide +kernel
theorem dX6_keep_37 : decode cX6_keep 37 = .ok (.aload_n 0, 1) := by decide +kernel
theorem dX6_keep_38 : decode cX6_keep 38 = .ok (.getfield 49, 3) := by decide +kernel
theorem dX6_keep_41 : decode cX6_keep 41 = .ok (.iload_n 1, 1) := by decide +kernel
theorem dX6_keep_42 : decode cX6_keep 42 = .ok (.iconst 1, 1) := by decide +kernel
theorem dX6_keep_43 : decode cX6_keep 43 = .ok (.bastore, 1) := by decide +kernel
theorem dX6_keep_44 : decode cX6_keep 44 = .ok (.iload_n 2, 1) := by decide +kernel
theorem dX6_keep_45 : decode cX6_keep 45 = .ok (.ireturn, 1) := by decide +kernel
theorem dX6_back_0 : decode cX6_back 0 = .ok (.iload_n 1, 1) := by decide +kernel
theorem dX6_back_1 : decode cX6_back 1 = .ok (.invokestatic 225, 3) := by decide +kernel
theorem dX6_back_4 : decode cX6_back 4 = .ok (.ifCond .ne 5, 3) := by decide +kernel
theorem dX6_back_7 : decode cX6_back 7 = .ok (.iconst (-1), 1) := by decide +kernel
theorem dX6_back_8 : decode cX6_back 8 = .ok (.ireturn, 1) := by decide +kernel
theorem dX6_back_9 : decode cX6_back 9 = .ok (.aload_n 0, 1) := by decide +kernel
theorem dX6_back_10 : decode cX6_back 10 = .ok (.getfield 49, 3) := by decide +kernel
theorem dX6_back_13 : decode cX6_back 13 = .ok (.iload_n 1, 1) := by decide +kernel
theorem dX6_back_14 : decode cX6_back 14 = .ok (.baload, 1) := by decide +kernel
theorem dX6_back_15 : decode cX6_back 15 = .ok (.ifCond .ne 6, 3) := by decide +kernel
theorem dX6_back_18 : decode cX6_back 18 = .ok (.bipush (-2), 2) := by decide +kernel
theorem dX6_back_20 : decode cX6_back 20 = .ok (.ireturn, 1) := by decide +kernel
theorem dX6_back_21 : decode cX6_back 21 = .ok (.aload_n 0, 1) := by decide +kernel
theorem dX6_back_22 : decode cX6_back 22 = .ok (.getfield 38, 3) := by decide +kernel
theorem dX6_back_25 : decode cX6_back 25 = .ok (.aload_n 0, 1) := by decide +kernel
theorem dX6_back_26 : decode cX6_back 26 = .ok (.getfield 45, 3) := by decide +kernel
theorem dX6_back_29 : decode cX6_back 29 = .ok (.iload_n 1, 1) := by decide +kernel
theorem dX6_back_30 : decode cX6_back 30 = .ok (.aaload, 1) := by decide +kernel
theorem dX6_back_31 : decode cX6_back 31 = .ok (.invokevirtual 228, 3) := by decide +kernel
theorem dX6_back_34 : decode cX6_back 34 = .ok (.aload_n 0, 1) := by decide +kernel
theorem dX6_back_35 : decode cX6_back 35 = .ok (.getfield 24, 3) := by decide +kernel
theorem dX6_back_38 : decode cX6_back 38 = .ok (.aload_n 0, 1) := by decide +kernel
theorem dX6_back_39 : decode cX6_back 39 = .ok (.getfield 38, 3) := by decide +kernel
theorem dX6_back_42 : decode cX6_back 42 = .ok (.invokevirtual 83, 3) := by decide +kernel
theorem dX6_back_45 : decode cX6_back 45 = .ok (.aload_n 0, 1) := by decide +kernel
theorem dX6_back_46 : decode cX6_back 46 = .ok (.getfield 38, 3) := by decide +kernel
theorem dX6_back_49 : decode cX6_back 49 = .ok (.getfield 90, 3) := by decide +kernel
theorem dX6_back_52 : decode cX6_back 52 = .ok (.ireturn, 1) := by decide +kernel
theorem dX6_sheet_0 : decode cX6_sheet 0 = .ok (.iload_n 1, 1) := by decide +kernel
theorem dX6_sheet_1 : decode cX6_sheet 1 = .ok (.invokestatic 231, 3) := by decide +kernel
theorem dX6_sheet_4 : decode cX6_sheet 4 = .ok (.ifCond .eq 16, 3) := by decide +kernel
theorem dX6_sheet_7 : decode cX6_sheet 7 = .ok (.iload_n 2, 1) := by decide +kernel
theorem dX6_sheet_8 : decode cX6_sheet 8 = .ok (.invokestatic 234, 3) := by decide +kernel
theorem dX6_sheet_11 : decode cX6_sheet 11 = .ok (.ifCond .eq 9, 3) := by decide +kernel
theorem dX6_sheet_14 : decode cX6_sheet 14 = .ok (.iload_n 3, 1) := by decide +kernel
theorem dX6_sheet_15 : decode cX6_sheet 15 = .ok (.bipush 40, 2) := by decide +kernel
theorem dX6_sheet_17 : decode cX6_sheet 17 = .ok (.if_icmp .le 5, 3) := by decide +kernel
theorem dX6_sheet_20 : decode cX6_sheet 20 = .ok (.iconst (-1), 1) := by decide +kernel
theorem dX6_sheet_21 : decode cX6_sheet 21 = .ok (.ireturn, 1) := by decide +kernel
theorem dX6_sheet_22 : decode cX6_sheet 22 = .ok (.iload_n 3, 1) := by decide +kernel
theorem dX6_sheet_23 : decode cX6_sheet 23 = .ok (.ifCond .ge 6, 3) := by decide +kernel
theorem dX6_sheet_26 : decode cX6_sheet 26 = .ok (.bipush (-14), 2) := by decide +kernel
theorem dX6_sheet_28 : decode cX6_sheet 28 = .ok (.ireturn, 1) := by decide +kernel
theorem dX6_sheet_29 : decode cX6_sheet 29 = .ok (.aload_n 0, 1) := by decide +kernel
theorem dX6_sheet_30 : decode cX6_sheet 30 = .ok (.getfield 55, 3) := by decide +kernel
theorem dX6_sheet_33 : decode cX6_sheet 33 = .ok (.iload_n 1, 1) := by decide +kernel
theorem dX6_sheet_34 : decode cX6_sheet 34 = .ok (.aaload, 1) := by decide +kernel
theorem dX6_sheet_35 : decode cX6_sheet 35 = .ok (.iload_n 2, 1) := by decide +kernel
theorem dX6_sheet_36 : decode cX6_sheet 36 = .ok (.iload_n 3, 1) := by decide +kernel
theorem dX6_sheet_37 : decode cX6_sheet 37 = .ok (.invokevirtual 237, 3) := by decide +kernel
theorem dX6_sheet_40 : decode cX6_sheet 40 = .ok (.iconst 1, 1) := by decide +kernel
theorem dX6_sheet_41 : decode cX6_sheet 41 = .ok (.ireturn, 1) := by decide +kernel
theorem dX6_lay_0 : decode cX6_lay 0 = .ok (.iload_n 1, 1) := by decide +kernel
theorem dX6_lay_1 : decode cX6_lay 1 = .ok (.invokestatic 231, 3) := by decide +kernel
theorem dX6_lay_4 : decode cX6_lay 4 = .ok (.ifCond .ne 5, 3) := by decide +kernel
theorem dX6_lay_7 : decode cX6_lay 7 = .ok (.iconst (-1), 1) := by decide +kernel
theorem dX6_lay_8 : decode cX6_lay 8 = .ok (.ireturn, 1) := by decide +kernel
theorem dX6_lay_9 : decode cX6_lay 9 = .ok (.aload_n 0, 1) := by decide +kernel
theorem dX6_lay_10 : decode cX6_lay 10 = .ok (.getfield 55, 3) := by decide +kernel
theorem dX6_lay_13 : decode cX6_lay 13 = .ok (.iload_n 1, 1) := by decide +kernel
theorem dX6_lay_14 : decode cX6_lay 14 = .ok (.aaload, 1) := by decide +kernel
theorem dX6_lay_15 : decode cX6_lay 15 = .ok (.astore 4, 2) := by decide +kernel
theorem dX6_lay_17 : decode cX6_lay 17 = .ok (.aload 4, 2) := by decide +kernel
theorem dX6_lay_19 : decode cX6_lay 19 = .ok (.aload 4, 2) := by decide +kernel
theorem dX6_lay_21 : decode cX6_lay 21 = .ok (.getfield 241, 3) := by decide +kernel
theorem dX6_lay_24 : decode cX6_lay 24 = .ok (.iload_n 2, 1) := by decide +kernel
theorem dX6_lay_25 : decode cX6_lay 25 = .ok (.invokevirtual 244, 3) := by decide +kernel
theorem dX6_lay_28 : decode cX6_lay 28 = .ok (.istore 5, 2) := by decide +kernel
theorem dX6_lay_30 : decode cX6_lay 30 = .ok (.iload 5, 2) := by decide +kernel
theorem dX6_lay_32 : decode cX6_lay 32 = .ok (.ifCond .eq 9, 3) := by decide +kernel
theorem dX6_lay_35 : decode cX6_lay 35 = .ok (.bipush (-10), 2) := by decide +kernel
theorem dX6_lay_37 : decode cX6_lay 37 = .ok (.iload 5, 2) := by decide +kernel
theorem dX6_lay_39 : decode cX6_lay 39 = .ok (.isub, 1) := by decide +kernel
theorem dX6_lay_40 : decode cX6_lay 40 = .ok (.ireturn, 1) := by decide +kernel
theorem dX6_lay_41 : decode cX6_lay 41 = .ok (.aload 4, 2) := by decide +kernel
theorem dX6_lay_43 : decode cX6_lay 43 = .ok (.iload_n 2, 1) := by decide +kernel
theorem dX6_lay_44 : decode cX6_lay 44 = .ok (.iload_n 3, 1) := by decide +kernel
theorem dX6_lay_45 : decode cX6_lay 45 = .ok (.invokevirtual 248, 3) := by decide +kernel
theorem dX6_lay_48 : decode cX6_lay 48 = .ok (.iconst 1, 1) := by decide +kernel
theorem dX6_lay_49 : decode cX6_lay 49 = .ok (.ireturn, 1) := by decide +kernel
theorem dX6_read_0 : decode cX6_read 0 = .ok (.iload_n 1, 1) := by decide +kernel
theorem dX6_read_1 : decode cX6_read 1 = .ok (.invokestatic 231, 3) := by decide +kernel
theorem dX6_read_4 : decode cX6_read 4 = .ok (.ifCond .eq 22, 3) := by decide +kernel
theorem dX6_read_7 : decode cX6_read 7 = .ok (.iload_n 2, 1) := by decide +kernel
theorem dX6_read_8 : decode cX6_read 8 = .ok (.invokestatic 234, 3) := by decide +kernel
theorem dX6_read_11 : decode cX6_read 11 = .ok (.ifCond .eq 15, 3) := by decide +kernel
theorem dX6_read_14 : decode cX6_read 14 = .ok (.iload 4, 2) := by decide +kernel
theorem dX6_read_16 : decode cX6_read 16 = .ok (.ifCond .lt 10, 3) := by decide +kernel
theorem dX6_read_19 : decode cX6_read 19 = .ok (.iload 4, 2) := by decide +kernel
theorem dX6_read_21 : decode cX6_read 21 = .ok (.bipush 20, 2) := by decide +kernel
theorem dX6_read_23 : decode cX6_read 23 = .ok (.if_icmp .le 5, 3) := by decide +kernel
theorem dX6_read_26 : decode cX6_read 26 = .ok (.iconst (-1), 1) := by decide +kernel
theorem dX6_read_27 : decode cX6_read 27 = .ok (.ireturn, 1) := by decide +kernel
theorem dX6_read_28 : decode cX6_read 28 = .ok (.aload_n 0, 1) := by decide +kernel
theorem dX6_read_29 : decode cX6_read 29 = .ok (.getfield 55, 3) := by decide +kernel
theorem dX6_read_32 : decode cX6_read 32 = .ok (.iload_n 1, 1) := by decide +kernel
theorem dX6_read_33 : decode cX6_read 33 = .ok (.aaload, 1) := by decide +kernel
theorem dX6_read_34 : decode cX6_read 34 = .ok (.astore 5, 2) := by decide +kernel
theorem dX6_read_36 : decode cX6_read 36 = .ok (.iconst 0, 1) := by decide +kernel
theorem dX6_read_37 : decode cX6_read 37 = .ok (.istore 6, 2) := by decide +kernel
theorem dX6_read_39 : decode cX6_read 39 = .ok (.iconst 0, 1) := by decide +kernel
theorem dX6_read_40 : decode cX6_read 40 = .ok (.istore 7, 2) := by decide +kernel
theorem dX6_read_42 : decode cX6_read 42 = .ok (.iload 7, 2) := by decide +kernel
theorem dX6_read_44 : decode cX6_read 44 = .ok (.iload 4, 2) := by decide +kernel
theorem dX6_read_46 : decode cX6_read 46 = .ok (.if_icmp .ge 66, 3) := by decide +kernel
theorem dX6_read_49 : decode cX6_read 49 = .ok (.iload_n 3, 1) := by decide +kernel
theorem dX6_read_50 : decode cX6_read 50 = .ok (.iconst 2, 1) := by decide +kernel
theorem dX6_read_51 : decode cX6_read 51 = .ok (.iload 7, 2) := by decide +kernel
theorem dX6_read_53 : decode cX6_read 53 = .ok (.imul, 1) := by decide +kernel
theorem dX6_read_54 : decode cX6_read 54 = .ok (.iadd, 1) := by decide +kernel
theorem dX6_read_55 : decode cX6_read 55 = .ok (.istore 8, 2) := by decide +kernel
theorem dX6_read_57 : decode cX6_read 57 = .ok (.aload 5, 2) := by decide +kernel
theorem dX6_read_59 : decode cX6_read 59 = .ok (.iload_n 2, 1) := by decide +kernel
theorem dX6_read_60 : decode cX6_read 60 = .ok (.iload 8, 2) := by decide +kernel
theorem dX6_read_62 : decode cX6_read 62 = .ok (.invokevirtual 251, 3) := by decide +kernel
theorem dX6_read_65 : decode cX6_read 65 = .ok (.istore 6, 2) := by decide +kernel
theorem dX6_read_67 : decode cX6_read 67 = .ok (.iload 6, 2) := by decide +kernel
theorem dX6_read_69 : decode cX6_read 69 = .ok (.ifCond .eq 6, 3) := by decide +kernel
theorem dX6_read_72 : decode cX6_read 72 = .ok (.goto 40, 3) := by decide +kernel
theorem dX6_read_75 : decode cX6_read 75 = .ok (.aload_n 0, 1) := by decide +kernel
theorem dX6_read_76 : decode cX6_read 76 = .ok (.aload 5, 2) := by decide +kernel
theorem dX6_read_78 : decode cX6_read 78 = .ok (.getfield 254, 3) := by decide +kernel
theorem dX6_read_81 : decode cX6_read 81 = .ok (.iload 8, 2) := by decide +kernel
theorem dX6_read_83 : decode cX6_read 83 = .ok (.iaload, 1) := by decide +kernel
theorem dX6_read_84 : decode cX6_read 84 = .ok (.aload 5, 2) := by decide +kernel
theorem dX6_read_86 : decode cX6_read 86 = .ok (.getfield 254, 3) := by decide +kernel
theorem dX6_read_89 : decode cX6_read 89 = .ok (.iload 8, 2) := by decide +kernel
theorem dX6_read_91 : decode cX6_read 91 = .ok (.iconst 1, 1) := by decide +kernel
theorem dX6_read_92 : decode cX6_read 92 = .ok (.iadd, 1) := by decide +kernel
theorem dX6_read_93 : decode cX6_read 93 = .ok (.iaload, 1) := by decide +kernel
theorem dX6_read_94 : decode cX6_read 94 = .ok (.invokevirtual 210, 3) := by decide +kernel
theorem dX6_read_97 : decode cX6_read 97 = .ok (.ifCond .ne 9, 3) := by decide +kernel
theorem dX6_read_100 : decode cX6_read 100 = .ok (.bipush (-20), 2) := by decide +kernel
theorem dX6_read_102 : decode cX6_read 102 = .ok (.iload 7, 2) := by decide +kernel
theorem dX6_read_104 : decode cX6_read 104 = .ok (.isub, 1) := by decide +kernel
theorem dX6_read_105 : decode cX6_read 105 = .ok (.ireturn, 1) := by decide +kernel
theorem dX6_read_106 : decode cX6_read 106 = .ok (.iinc 7 1, 3) := by decide +kernel
theorem dX6_read_109 : decode cX6_read 109 = .ok (.goto (-67), 3) := by decide +kernel
theorem dX6_read_112 : decode cX6_read 112 = .ok (.aload_n 0, 1) := by decide +kernel
theorem dX6_read_113 : decode cX6_read 113 = .ok (.iload 6, 2) := by decide +kernel
theorem dX6_read_115 : decode cX6_read 115 = .ok (.putfield 257, 3) := by decide +kernel
theorem dX6_read_118 : decode cX6_read 118 = .ok (.aload_n 0, 1) := by decide +kernel
theorem dX6_read_119 : decode cX6_read 119 = .ok (.aload 5, 2) := by decide +kernel
theorem dX6_read_121 : decode cX6_read 121 = .ok (.iload_n 3, 1) := by decide +kernel
theorem dX6_read_122 : decode cX6_read 122 = .ok (.iload 7, 2) := by decide +kernel
theorem dX6_read_124 : decode cX6_read 124 = .ok (.invokevirtual 260, 3) := by decide +kernel
theorem dX6_read_127 : decode cX6_read 127 = .ok (.iload 7, 2) := by decide +kernel
theorem dX6_read_129 : decode cX6_read 129 = .ok (.ireturn, 1) := by decide +kernel
theorem dX6_torn_0 : decode cX6_torn 0 = .ok (.aload_n 0, 1) := by decide +kernel
theorem dX6_torn_1 : decode cX6_torn 1 = .ok (.getfield 257, 3) := by decide +kernel
theorem dX6_torn_4 : decode cX6_torn 4 = .ok (.ireturn, 1) := by decide +kernel
theorem dX6_count_0 : decode cX6_count 0 = .ok (.iload_n 1, 1) := by decide +kernel
theorem dX6_count_1 : decode cX6_count 1 = .ok (.tableswitch 108 0 3 #[31, 61, 69, 96], 31) := by decide +kernel
theorem dX6_count_32 : decode cX6_count 32 = .ok (.aload_n 0, 1) := by decide +kernel
theorem dX6_count_33 : decode cX6_count 33 = .ok (.getfield 49, 3) := by decide +kernel
theorem dX6_count_36 : decode cX6_count 36 = .ok (.iconst 0, 1) := by decide +kernel
theorem dX6_count_37 : decode cX6_count 37 = .ok (.baload, 1) := by decide +kernel
theorem dX6_count_38 : decode cX6_count 38 = .ok (.ifCond .eq 7, 3) := by decide +kernel
theorem dX6_count_41 : decode cX6_count 41 = .ok (.iconst 1, 1) := by decide +kernel
theorem dX6_count_42 : decode cX6_count 42 = .ok (.goto 4, 3) := by decide +kernel
theorem dX6_count_45 : decode cX6_count 45 = .ok (.iconst 0, 1) := by decide +kernel
theorem dX6_count_46 : decode cX6_count 46 = .ok (.aload_n 0, 1) := by decide +kernel
theorem dX6_count_47 : decode cX6_count 47 = .ok (.getfield 49, 3) := by decide +kernel
theorem dX6_count_50 : decode cX6_count 50 = .ok (.iconst 1, 1) := by decide +kernel
theorem dX6_count_51 : decode cX6_count 51 = .ok (.baload, 1) := by decide +kernel
theorem dX6_count_52 : decode cX6_count 52 = .ok (.ifCond .eq 7, 3) := by decide +kernel
theorem dX6_count_55 : decode cX6_count 55 = .ok (.iconst 1, 1) := by decide +kernel
theorem dX6_count_56 : decode cX6_count 56 = .ok (.goto 4, 3) := by decide +kernel
theorem dX6_count_59 : decode cX6_count 59 = .ok (.iconst 0, 1) := by decide +kernel
theorem dX6_count_60 : decode cX6_count 60 = .ok (.iadd, 1) := by decide +kernel
theorem dX6_count_61 : decode cX6_count 61 = .ok (.ireturn, 1) := by decide +kernel
theorem dX6_count_62 : decode cX6_count 62 = .ok (.aload_n 0, 1) := by decide +kernel
theorem dX6_count_63 : decode cX6_count 63 = .ok (.getfield 20, 3) := by decide +kernel
theorem dX6_count_66 : decode cX6_count 66 = .ok (.getfield 60, 3) := by decide +kernel
theorem dX6_count_69 : decode cX6_count 69 = .ok (.ireturn, 1) := by decide +kernel
theorem dX6_count_70 : decode cX6_count 70 = .ok (.aload_n 0, 1) := by decide +kernel
theorem dX6_count_71 : decode cX6_count 71 = .ok (.getfield 55, 3) := by decide +kernel
theorem dX6_count_74 : decode cX6_count 74 = .ok (.iconst 0, 1) := by decide +kernel
theorem dX6_count_75 : decode cX6_count 75 = .ok (.aaload, 1) := by decide +kernel
theorem dX6_count_76 : decode cX6_count 76 = .ok (.getfield 264, 3) := by decide +kernel
theorem dX6_count_79 : decode cX6_count 79 = .ok (.ifCond .ge 8, 3) := by decide +kernel
theorem dX6_count_82 : decode cX6_count 82 = .ok (.bipush (-4), 2) := by decide +kernel
theorem dX6_count_84 : decode cX6_count 84 = .ok (.goto 12, 3) := by decide +kernel
theorem dX6_count_87 : decode cX6_count 87 = .ok (.aload_n 0, 1) := by decide +kernel
theorem dX6_count_88 : decode cX6_count 88 = .ok (.getfield 55, 3) := by decide +kernel
theorem dX6_count_91 : decode cX6_count 91 = .ok (.iconst 0, 1) := by decide +kernel
theorem dX6_count_92 : decode cX6_count 92 = .ok (.aaload, 1) := by decide +kernel
theorem dX6_count_93 : decode cX6_count 93 = .ok (.getfield 264, 3) := by decide +kernel
theorem dX6_count_96 : decode cX6_count 96 = .ok (.ireturn, 1) := by decide +kernel
theorem dX6_count_97 : decode cX6_count 97 = .ok (.aload_n 0, 1) := by decide +kernel
theorem dX6_count_98 : decode cX6_count 98 = .ok (.getfield 24, 3) := by decide +kernel
theorem dX6_count_101 : decode cX6_count 101 = .ok (.aload_n 0, 1) := by decide +kernel
theorem dX6_count_102 : decode cX6_count 102 = .ok (.getfield 38, 3) := by decide +kernel
theorem dX6_count_105 : decode cX6_count 105 = .ok (.invokevirtual 265, 3) := by decide +kernel
theorem dX6_count_108 : decode cX6_count 108 = .ok (.ireturn, 1) := by decide +kernel
theorem dX6_count_109 : decode cX6_count 109 = .ok (.iconst (-1), 1) := by decide +kernel
theorem dX6_count_110 : decode cX6_count 110 = .ok (.ireturn, 1) := by decide +kernel
theorem dX6_mayCouple_0 : decode cX6_mayCouple 0 = .ok (.aload_n 0, 1) := by decide +kernel
theorem dX6_mayCouple_1 : decode cX6_mayCouple 1 = .ok (.getfield 38, 3) := by decide +kernel
theorem dX6_mayCouple_4 : decode cX6_mayCouple 4 = .ok (.iload_n 1, 1) := by decide +kernel
theorem dX6_mayCouple_5 : decode cX6_mayCouple 5 = .ok (.invokevirtual 116, 3) := by decide +kernel
theorem dX6_mayCouple_8 : decode cX6_mayCouple 8 = .ok (.ifCond .eq 21, 3) := by decide +kernel
theorem dX6_mayCouple_11 : decode cX6_mayCouple 11 = .ok (.iload_n 2, 1) := by decide +kernel
theorem dX6_mayCouple_12 : decode cX6_mayCouple 12 = .ok (.sipush (-9999), 3) := by decide +kernel
theorem dX6_mayCouple_15 : decode cX6_mayCouple 15 = .ok (.if_icmp .lt 14, 3) := by decide +kernel
theorem dX6_mayCouple_18 : decode cX6_mayCouple 18 = .ok (.iload_n 2, 1) := by decide +kernel
theorem dX6_mayCouple_19 : decode cX6_mayCouple 19 = .ok (.sipush 9999, 3) := by decide +kernel
theorem dX6_mayCouple_22 : decode cX6_mayCouple 22 = .ok (.if_icmp .gt 7, 3) := by decide +kernel
theorem dX6_mayCouple_25 : decode cX6_mayCouple 25 = .ok (.iconst 1, 1) := by decide +kernel
theorem dX6_mayCouple_26 : decode cX6_mayCouple 26 = .ok (.goto 4, 3) := by decide +kernel
theorem dX6_mayCouple_29 : decode cX6_mayCouple 29 = .ok (.iconst 0, 1) := by decide +kernel
theorem dX6_mayCouple_30 : decode cX6_mayCouple 30 = .ok (.ireturn, 1) := by decide +kernel
theorem dX6_takeCouples_0 : decode cX6_takeCouples 0 = .ok (.iconst 0, 1) := by decide +kernel
theorem dX6_takeCouples_1 : decode cX6_takeCouples 1 = .ok (.istore 4, 2) := by decide +kernel
theorem dX6_takeCouples_3 : decode cX6_takeCouples 3 = .ok (.iload 4, 2) := by decide +kernel
theorem dX6_takeCouples_5 : decode cX6_takeCouples 5 = .ok (.iload_n 3, 1) := by decide +kernel
theorem dX6_takeCouples_6 : decode cX6_takeCouples 6 = .ok (.if_icmp .ge 41, 3) := by decide +kernel
theorem dX6_takeCouples_9 : decode cX6_takeCouples 9 = .ok (.aload_n 0, 1) := by decide +kernel
theorem dX6_takeCouples_10 : decode cX6_takeCouples 10 = .ok (.getfield 38, 3) := by decide +kernel
theorem dX6_takeCouples_13 : decode cX6_takeCouples 13 = .ok (.getfield 138, 3) := by decide +kernel
theorem dX6_takeCouples_16 : decode cX6_takeCouples 16 = .ok (.aload_n 1, 1) := by decide +kernel
theorem dX6_takeCouples_17 : decode cX6_takeCouples 17 = .ok (.getfield 254, 3) := by decide +kernel
theorem dX6_takeCouples_20 : decode cX6_takeCouples 20 = .ok (.iload_n 2, 1) := by decide +kernel
theorem dX6_takeCouples_21 : decode cX6_takeCouples 21 = .ok (.iconst 2, 1) := by decide +kernel
theorem dX6_takeCouples_22 : decode cX6_takeCouples 22 = .ok (.iload 4, 2) := by decide +kernel
theorem dX6_takeCouples_24 : decode cX6_takeCouples 24 = .ok (.imul, 1) := by decide +kernel
theorem dX6_takeCouples_25 : decode cX6_takeCouples 25 = .ok (.iadd, 1) := by decide +kernel
theorem dX6_takeCouples_26 : decode cX6_takeCouples 26 = .ok (.iaload, 1) := by decide +kernel
theorem dX6_takeCouples_27 : decode cX6_takeCouples 27 = .ok (.aload_n 1, 1) := by decide +kernel
theorem dX6_takeCouples_28 : decode cX6_takeCouples 28 = .ok (.getfield 254, 3) := by decide +kernel
theorem dX6_takeCouples_31 : decode cX6_takeCouples 31 = .ok (.iload_n 2, 1) := by decide +kernel
theorem dX6_takeCouples_32 : decode cX6_takeCouples 32 = .ok (.iconst 2, 1) := by decide +kernel
theorem dX6_takeCouples_33 : decode cX6_takeCouples 33 = .ok (.iload 4, 2) := by decide +kernel
theorem dX6_takeCouples_35 : decode cX6_takeCouples 35 = .ok (.imul, 1) := by decide +kernel
theorem dX6_takeCouples_36 : decode cX6_takeCouples 36 = .ok (.iadd, 1) := by decide +kernel
theorem dX6_takeCouples_37 : decode cX6_takeCouples 37 = .ok (.iconst 1, 1) := by decide +kernel
theorem dX6_takeCouples_38 : decode cX6_takeCouples 38 = .ok (.iadd, 1) := by decide +kernel
theorem dX6_takeCouples_39 : decode cX6_takeCouples 39 = .ok (.iaload, 1) := by decide +kernel
theorem dX6_takeCouples_40 : decode cX6_takeCouples 40 = .ok (.iastore, 1) := by decide +kernel
theorem dX6_takeCouples_41 : decode cX6_takeCouples 41 = .ok (.iinc 4 1, 3) := by decide +kernel
theorem dX6_takeCouples_44 : decode cX6_takeCouples 44 = .ok (.goto (-41), 3) := by decide +kernel
theorem dX6_takeCouples_47 : decode cX6_takeCouples 47 = .ok (.iload_n 3, 1) := by decide +kernel
theorem dX6_takeCouples_48 : decode cX6_takeCouples 48 = .ok (.ifCond .le 14, 3) := by decide +kernel
theorem dX6_takeCouples_51 : decode cX6_takeCouples 51 = .ok (.aload_n 0, 1) := by decide +kernel
theorem dX6_takeCouples_52 : decode cX6_takeCouples 52 = .ok (.getfield 24, 3) := by decide +kernel
theorem dX6_takeCouples_55 : decode cX6_takeCouples 55 = .ok (.aload_n 0, 1) := by decide +kernel
theorem dX6_takeCouples_56 : decode cX6_takeCouples 56 = .ok (.getfield 38, 3) := by decide +kernel
theorem dX6_takeCouples_59 : decode cX6_takeCouples 59 = .ok (.invokevirtual 83, 3) := by decide +kernel
theorem dX6_takeCouples_62 : decode cX6_takeCouples 62 = .ok (.return_, 1) := by decide +kernel
theorem dX6_isWay_0 : decode cX6_isWay 0 = .ok (.iload_n 0, 1) := by decide +kernel
theorem dX6_isWay_1 : decode cX6_isWay 1 = .ok (.ifCond .eq 8, 3) := by decide +kernel
theorem dX6_isWay_4 : decode cX6_isWay 4 = .ok (.iload_n 0, 1) := by decide +kernel
theorem dX6_isWay_5 : decode cX6_isWay 5 = .ok (.iconst 1, 1) := by decide +kernel
theorem dX6_isWay_6 : decode cX6_isWay 6 = .ok (.if_icmp .ne 7, 3) := by decide +kernel
theorem dX6_isWay_9 : decode cX6_isWay 9 = .ok (.iconst 1, 1) := by decide +kernel
theorem dX6_isWay_10 : decode cX6_isWay 10 = .ok (.goto 4, 3) := by decide +kernel
theorem dX6_isWay_13 : decode cX6_isWay 13 = .ok (.iconst 0, 1) := by decide +kernel
theorem dX6_isWay_14 : decode cX6_isWay 14 = .ok (.ireturn, 1) := by decide +kernel
theorem dX6_isImage_0 : decode cX6_isImage 0 = .ok (.iload_n 0, 1) := by decide +kernel
theorem dX6_isImage_1 : decode cX6_isImage 1 = .ok (.ifCond .lt 12, 3) := by decide +kernel
theorem dX6_isImage_4 : decode cX6_isImage 4 = .ok (.iload_n 0, 1) := by decide +kernel
theorem dX6_isImage_5 : decode cX6_isImage 5 = .ok (.iconst 2, 1) := by decide +kernel
theorem dX6_isImage_6 : decode cX6_isImage 6 = .ok (.if_icmp .ge 7, 3) := by decide +kernel
theorem dX6_isImage_9 : decode cX6_isImage 9 = .ok (.iconst 1, 1) := by decide +kernel
theorem dX6_isImage_10 : decode cX6_isImage 10 = .ok (.goto 4, 3) := by decide +kernel
theorem dX6_isImage_13 : decode cX6_isImage 13 = .ok (.iconst 0, 1) := by decide +kernel
theorem dX6_isImage_14 : decode cX6_isImage 14 = .ok (.ireturn, 1) := by decide +kernel
theorem dX6_isSheet_0 : decode cX6_isSheet 0 = .ok (.iload_n 0, 1) := by decide +kernel
theorem dX6_isSheet_1 : decode cX6_isSheet 1 = .ok (.ifCond .lt 12, 3) := by decide +kernel
theorem dX6_isSheet_4 : decode cX6_isSheet 4 = .ok (.iload_n 0, 1) := by decide +kernel
theorem dX6_isSheet_5 : decode cX6_isSheet 5 = .ok (.iconst 4, 1) := by decide +kernel
theorem dX6_isSheet_6 : decode cX6_isSheet 6 = .ok (.if_icmp .ge 7, 3) := by decide +kernel
theorem dX6_isSheet_9 : decode cX6_isSheet 9 = .ok (.iconst 1, 1) := by decide +kernel
theorem dX6_isSheet_10 : decode cX6_isSheet 10 = .ok (.goto 4, 3) := by decide +kernel
theorem dX6_isSheet_13 : decode cX6_isSheet 13 = .ok (.iconst 0, 1) := by decide +kernel
theorem dX6_isSheet_14 : decode cX6_isSheet 14 = .ok (.ireturn, 1) := by decide +kernel
theorem dX6_isLane_0 : decode cX6_isLane 0 = .ok (.iload_n 0, 1) := by decide +kernel
theorem dX6_isLane_1 : decode cX6_isLane 1 = .ok (.ifCond .lt 12, 3) := by decide +kernel
theorem dX6_isLane_4 : decode cX6_isLane 4 = .ok (.iload_n 0, 1) := by decide +kernel
theorem dX6_isLane_5 : decode cX6_isLane 5 = .ok (.iconst 2, 1) := by decide +kernel
theorem dX6_isLane_6 : decode cX6_isLane 6 = .ok (.if_icmp .gt 7, 3) := by decide +kernel
theorem dX6_isLane_9 : decode cX6_isLane 9 = .ok (.iconst 1, 1) := by decide +kernel
theorem dX6_isLane_10 : decode cX6_isLane 10 = .ok (.goto 4, 3) := by decide +kernel
theorem dX6_isLane_13 : decode cX6_isLane 13 = .ok (.iconst 0, 1) := by decide +kernel
theorem dX6_isLane_14 : decode cX6_isLane 14 = .ok (.ireturn, 1) := by decide +kernel
theorem dX7_init_0 : decode cX7_init 0 = .ok (.aload_n 0, 1) := by decide +kernel
theorem dX7_init_1 : decode cX7_init 1 = .ok (.invokespecial 1, 3) := by decide +kernel
theorem dX7_init_4 : decode cX7_init 4 = .ok (.aload_n 0, 1) := by decide +kernel
theorem dX7_init_5 : decode cX7_init 5 = .ok (.sipush 395, 3) := by decide +kernel
theorem dX7_init_8 : decode cX7_init 8 = .ok (.newarray .int, 2) := by decide +kernel
theorem dX7_init_10 : decode cX7_init 10 = .ok (.putfield 7, 3) := by decide +kernel
theorem dX7_init_13 : decode cX7_init 13 = .ok (.aload_n 0, 1) := by decide +kernel
theorem dX7_init_14 : decode cX7_init 14 = .ok (.sipush 320, 3) := by decide +kernel
theorem dX7_init_17 : decode cX7_init 17 = .ok (.newarray .int, 2) := by decide +kernel
theorem dX7_init_19 : decode cX7_init 19 = .ok (.putfield 13, 3) := by decide +kernel
theorem dX7_init_22 : decode cX7_init 22 = .ok (.aload_n 0, 1) := by decide +kernel
theorem dX7_init_23 : decode cX7_init 23 = .ok (.bipush 6, 2) := by decide +kernel
theorem dX7_init_25 : decode cX7_init 25 = .ok (.newarray .int, 2) := by decide +kernel
theorem dX7_init_27 : decode cX7_init 27 = .ok (.dup, 1) := by decide +kernel
theorem dX7_init_28 : decode cX7_init 28 = .ok (.iconst 0, 1) := by decide +kernel
theorem dX7_init_29 : decode cX7_init 29 = .ok (.iconst 0, 1) := by decide +kernel
theorem dX7_init_30 : decode cX7_init 30 = .ok (.iastore, 1) := by decide +kernel
theorem dX7_init_31 : decode cX7_init 31 = .ok (.dup, 1) := by decide +kernel
theorem dX7_init_32 : decode cX7_init 32 = .ok (.iconst 1, 1) := by decide +kernel
theorem dX7_init_33 : decode cX7_init 33 = .ok (.iconst 4, 1) := by decide +kernel
theorem dX7_init_34 : decode cX7_init 34 = .ok (.iastore, 1) := by decide +kernel
theorem dX7_init_35 : decode cX7_init 35 = .ok (.dup, 1) := by decide +kernel
theorem dX7_init_36 : decode cX7_init 36 = .ok (.iconst 2, 1) := by decide +kernel
theorem dX7_init_37 : decode cX7_init 37 = .ok (.bipush 8, 2) := by decide +kernel
theorem dX7_init_39 : decode cX7_init 39 = .ok (.iastore, 1) := by decide +kernel
theorem dX7_init_40 : decode cX7_init 40 = .ok (.dup, 1) := by decide +kernel
theorem dX7_init_41 : decode cX7_init 41 = .ok (.iconst 3, 1) := by decide +kernel
theorem dX7_init_42 : decode cX7_init 42 = .ok (.bipush 12, 2) := by decide +kernel
theorem dX7_init_44 : decode cX7_init 44 = .ok (.iastore, 1) := by decide +kernel
theorem dX7_init_45 : decode cX7_init 45 = .ok (.dup, 1) := by decide +kernel
theorem dX7_init_46 : decode cX7_init 46 = .ok (.iconst 4, 1) := by decide +kernel
theorem dX7_init_47 : decode cX7_init 47 = .ok (.bipush 17, 2) := by decide +kernel
theorem dX7_init_49 : decode cX7_init 49 = .ok (.iastore, 1) := by decide +kernel
theorem dX7_init_50 : decode cX7_init 50 = .ok (.dup, 1) := by decide +kernel
theorem dX7_init_51 : decode cX7_init 51 = .ok (.iconst 5, 1) := by decide +kernel
theorem dX7_init_52 : decode cX7_init 52 = .ok (.bipush 20, 2) := by decide +kernel
theorem dX7_init_54 : decode cX7_init 54 = .ok (.iastore, 1) := by decide +kernel
theorem dX7_init_55 : decode cX7_init 55 = .ok (.putfield 16, 3) := by decide +kernel
theorem dX7_init_58 : decode cX7_init 58 = .ok (.aload_n 0, 1) := by decide +kernel
theorem dX7_init_59 : decode cX7_init 59 = .ok (.bipush 20, 2) := by decide +kernel
theorem dX7_init_61 : decode cX7_init 61 = .ok (.newarray .int, 2) := by decide +kernel
theorem dX7_init_63 : decode cX7_init 63 = .ok (.dup, 1) := by decide +kernel
theorem dX7_init_64 : decode cX7_init 64 = .ok (.iconst 0, 1) := by decide +kernel
theorem dX7_init_65 : decode cX7_init 65 = .ok (.bipush 116, 2) := by decide +kernel
theorem dX7_init_67 : decode cX7_init 67 = .ok (.iastore, 1) := by decide +kernel
theorem dX7_init_68 : decode cX7_init 68 = .ok (.dup, 1) := by decide +kernel
theorem dX7_init_69 : decode cX7_init 69 = .ok (.iconst 1, 1) := by decide +kernel
theorem dX7_init_70 : decode cX7_init 70 = .ok (.bipush 117, 2) := by decide +kernel
theorem dX7_init_72 : decode cX7_init 72 = .ok (.iastore, 1) := by decide +kernel
theorem dX7_init_73 : decode cX7_init 73 = .ok (.dup, 1) := by decide +kernel
theorem dX7_init_74 : decode cX7_init 74 = .ok (.iconst 2, 1) := by decide +kernel
theorem dX7_init_75 : decode cX7_init 75 = .ok (.bipush 114, 2) := by decide +kernel
theorem dX7_init_77 : decode cX7_init 77 = .ok (.iastore, 1) := by decide +kernel
theorem dX7_init_78 : decode cX7_init 78 = .ok (.dup, 1) := by decide +kernel
theorem dX7_init_79 : decode cX7_init 79 = .ok (.iconst 3, 1) := by decide +kernel
theorem dX7_init_80 : decode cX7_init 80 = .ok (.bipush 110, 2) := by decide +kernel
theorem dX7_init_82 : decode cX7_init 82 = .ok (.iastore, 1) := by decide +kernel
theorem dX7_init_83 : decode cX7_init 83 = .ok (.dup, 1) := by decide +kernel
theorem dX7_init_84 : decode cX7_init 84 = .ok (.iconst 4, 1) := by decide +kernel
theorem dX7_init_85 : decode cX7_init 85 = .ok (.bipush 104, 2) := by decide +kernel
theorem dX7_init_87 : decode cX7_init 87 = .ok (.iastore, 1) := by decide +kernel
theorem dX7_init_88 : decode cX7_init 88 = .ok (.dup, 1) := by decide +kernel
theorem dX7_init_89 : decode cX7_init 89 = .ok (.iconst 5, 1) := by decide +kernel
theorem dX7_init_90 : decode cX7_init 90 = .ok (.bipush 111, 2) := by decide +kernel
theorem dX7_init_92 : decode cX7_init 92 = .ok (.iastore, 1) := by decide +kernel
theorem dX7_init_93 : decode cX7_init 93 = .ok (.dup, 1) := by decide +kernel
theorem dX7_init_94 : decode cX7_init 94 = .ok (.bipush 6, 2) := by decide +kernel
theorem dX7_init_96 : decode cX7_init 96 = .ok (.bipush 108, 2) := by decide +kernel
theorem dX7_init_98 : decode cX7_init 98 = .ok (.iastore, 1) := by decide +kernel
theorem dX7_init_99 : decode cX7_init 99 = .ok (.dup, 1) := by decide +kernel
theorem dX7_init_100 : decode cX7_init 100 = .ok (.bipush 7, 2) := by decide +kernel
theorem dX7_init_102 : decode cX7_init 102 = .ok (.bipush 100, 2) := by decide +kernel
theorem dX7_init_104 : decode cX7_init 104 = .ok (.iastore, 1) := by decide +kernel
theorem dX7_init_105 : decode cX7_init 105 = .ok (.dup, 1) := by decide +kernel
theorem dX7_init_106 : decode cX7_init 106 = .ok (.bipush 8, 2) := by decide +kernel
theorem dX7_init_108 : decode cX7_init 108 = .ok (.bipush 98, 2) := by decide +kernel
theorem dX7_init_110 : decode cX7_init 110 = .ok (.iastore, 1) := by decide +kernel
theorem dX7_init_111 : decode cX7_init 111 = .ok (.dup, 1) := by decide +kernel
theorem dX7_init_112 : decode cX7_init 112 = .ok (.bipush 9, 2) := by decide +kernel
theorem dX7_init_114 : decode cX7_init 114 = .ok (.bipush 101, 2) := by decide +kernel
theorem dX7_init_116 : decode cX7_init 116 = .ok (.iastore, 1) := by decide +kernel
theorem dX7_init_117 : decode cX7_init 117 = .ok (.dup, 1) := by decide +kernel
theorem dX7_init_118 : decode cX7_init 118 = .ok (.bipush 10, 2) := by decide +kernel
theorem dX7_init_120 : decode cX7_init 120 = .ok (.bipush 97, 2) := by decide +kernel
theorem dX7_init_122 : decode cX7_init 122 = .ok (.iastore, 1) := by decide +kernel
theorem dX7_init_123 : decode cX7_init 123 = .ok (.dup, 1) := by decide +kernel
theorem dX7_init_124 : decode cX7_init 124 = .ok (.bipush 11, 2) := by decide +kernel
theorem dX7_init_126 : decode cX7_init 126 = .ok (.bipush 109, 2) := by decide +kernel
theorem dX7_init_128 : decode cX7_init 128 = .ok (.iastore, 1) := by decide +kernel
theorem dX7_init_129 : decode cX7_init 129 = .ok (.dup, 1) := by decide +kernel
theorem dX7_init_130 : decode cX7_init 130 = .ok (.bipush 12, 2) := by decide +kernel
theorem dX7_init_132 : decode cX7_init 132 = .ok (.bipush 112, 2) := by decide +kernel
theorem dX7_init_134 : decode cX7_init 134 = .ok (.iastore, 1) := by decide +kernel
theorem dX7_init_135 : decode cX7_init 135 = .ok (.dup, 1) := by decide +kernel
theorem dX7_init_136 : decode cX7_init 136 = .ok (.bipush 13, 2) := by decide +kernel
theorem dX7_init_138 : decode cX7_init 138 = .ok (.bipush 111, 2) := by decide +kernel
theorem dX7_init_140 : decode cX7_init 140 = .ok (.iastore, 1) := by decide +kernel
theorem dX7_init_141 : decode cX7_init 141 = .ok (.dup, 1) := by decide +kernel
theorem dX7_init_142 : decode cX7_init 142 = .ok (.bipush 14, 2) := by decide +kernel
theorem dX7_init_144 : decode cX7_init 144 = .ok (.bipush 105, 2) := by decide +kernel
theorem dX7_init_146 : decode cX7_init 146 = .ok (.iastore, 1) := by decide +kernel
theorem dX7_init_147 : decode cX7_init 147 = .ok (.dup, 1) := by decide +kernel
theorem dX7_init_148 : decode cX7_init 148 = .ok (.bipush 15, 2) := by decide +kernel
theorem dX7_init_150 : decode cX7_init 150 = .ok (.bipush 110, 2) := by decide +kernel
theorem dX7_init_152 : decode cX7_init 152 = .ok (.iastore, 1) := by decide +kernel
theorem dX7_init_153 : decode cX7_init 153 = .ok (.dup, 1) := by decide +kernel
theorem dX7_init_154 : decode cX7_init 154 = .ok (.bipush 16, 2) := by decide +kernel
theorem dX7_init_156 : decode cX7_init 156 = .ok (.bipush 116, 2) := by decide +kernel
theorem dX7_init_158 : decode cX7_init 158 = .ok (.iastore, 1) := by decide +kernel
theorem dX7_init_159 : decode cX7_init 159 = .ok (.dup, 1) := by decide +kernel
theorem dX7_init_160 : decode cX7_init 160 = .ok (.bipush 17, 2) := by decide +kernel
theorem dX7_init_162 : decode cX7_init 162 = .ok (.bipush 97, 2) := by decide +kernel
theorem dX7_init_164 : decode cX7_init 164 = .ok (.iastore, 1) := by decide +kernel
theorem dX7_init_165 : decode cX7_init 165 = .ok (.dup, 1) := by decide +kernel
theorem dX7_init_166 : decode cX7_init 166 = .ok (.bipush 18, 2) := by decide +kernel
theorem dX7_init_168 : decode cX7_init 168 = .ok (.bipush 108, 2) := by decide +kernel
theorem dX7_init_170 : decode cX7_init 170 = .ok (.iastore, 1) := by decide +kernel
theorem dX7_init_171 : decode cX7_init 171 = .ok (.dup, 1) := by decide +kernel
theorem dX7_init_172 : decode cX7_init 172 = .ok (.bipush 19, 2) := by decide +kernel
theorem dX7_init_174 : decode cX7_init 174 = .ok (.bipush 108, 2) := by decide +kernel
theorem dX7_init_176 : decode cX7_init 176 = .ok (.iastore, 1) := by decide +kernel
theorem dX7_init_177 : decode cX7_init 177 = .ok (.putfield 19, 3) := by decide +kernel
theorem dX7_init_180 : decode cX7_init 180 = .ok (.aload_n 0, 1) := by decide +kernel
theorem dX7_init_181 : decode cX7_init 181 = .ok (.bipush 20, 2) := by decide +kernel
theorem dX7_init_183 : decode cX7_init 183 = .ok (.newarray .int, 2) := by decide +kernel
theorem dX7_init_185 : decode cX7_init 185 = .ok (.putfield 22, 3) := by decide +kernel
theorem dX7_init_188 : decode cX7_init 188 = .ok (.aload_n 0, 1) := by decide +kernel
theorem dX7_init_189 : decode cX7_init 189 = .ok (.bipush 6, 2) := by decide +kernel
theorem dX7_init_191 : decode cX7_init 191 = .ok (.newarray .int, 2) := by decide +kernel
theorem dX7_init_193 : decode cX7_init 193 = .ok (.putfield 25, 3) := by decide +kernel
theorem dX7_init_196 : decode cX7_init 196 = .ok (.aload_n 0, 1) := by decide +kernel
theorem dX7_init_197 : decode cX7_init 197 = .ok (.bipush (-4), 2) := by decide +kernel
theorem dX7_init_199 : decode cX7_init 199 = .ok (.putfield 28, 3) := by decide +kernel
theorem dX7_init_202 : decode cX7_init 202 = .ok (.aload_n 0, 1) := by decide +kernel
theorem dX7_init_203 : decode cX7_init 203 = .ok (.bipush 16, 2) := by decide +kernel
theorem dX7_init_205 : decode cX7_init 205 = .ok (.newarray .long, 2) := by decide +kernel
theorem dX7_init_207 : decode cX7_init 207 = .ok (.putfield 32, 3) := by decide +kernel
theorem dX7_init_210 : decode cX7_init 210 = .ok (.aload_n 0, 1) := by decide +kernel
theorem dX7_init_211 : decode cX7_init 211 = .ok (.iconst 4, 1) := by decide +kernel
theorem dX7_init_212 : decode cX7_init 212 = .ok (.newarray .long, 2) := by decide +kernel
theorem dX7_init_214 : decode cX7_init 214 = .ok (.putfield 36, 3) := by decide +kernel
theorem dX7_init_217 : decode cX7_init 217 = .ok (.aload_n 0, 1) := by decide +kernel
theorem dX7_init_218 : decode cX7_init 218 = .ok (.bipush 16, 2) := by decide +kernel
theorem dX7_init_220 : decode cX7_init 220 = .ok (.newarray .long, 2) := by decide +kernel
theorem dX7_init_222 : decode cX7_init 222 = .ok (.putfield 39, 3) := by decide +kernel
theorem dX7_init_225 : decode cX7_init 225 = .ok (.aload_n 0, 1) := by decide +kernel
theorem dX7_init_226 : decode cX7_init 226 = .ok (.bipush 6, 2) := by decide +kernel
theorem dX7_init_228 : decode cX7_init 228 = .ok (.newarray .long, 2) := by decide +kernel
theorem dX7_init_230 : decode cX7_init 230 = .ok (.putfield 42, 3) := by decide +kernel
theorem dX7_init_233 : decode cX7_init 233 = .ok (.aload_n 0, 1) := by decide +kernel
theorem dX7_init_234 : decode cX7_init 234 = .ok (.bipush 6, 2) := by decide +kernel
theorem dX7_init_236 : decode cX7_init 236 = .ok (.newarray .int, 2) := by decide +kernel
theorem dX7_init_238 : decode cX7_init 238 = .ok (.putfield 45, 3) := by decide +kernel
theorem dX7_init_241 : decode cX7_init 241 = .ok (.aload_n 0, 1) := by decide +kernel
theorem dX7_init_242 : decode cX7_init 242 = .ok (.bipush 20, 2) := by decide +kernel
theorem dX7_init_244 : decode cX7_init 244 = .ok (.newarray .int, 2) := by decide +kernel
theorem dX7_init_246 : decode cX7_init 246 = .ok (.putfield 48, 3) := by decide +kernel
theorem dX7_init_249 : decode cX7_init 249 = .ok (.aload_n 0, 1) := by decide +kernel
theorem dX7_init_250 : decode cX7_init 250 = .ok (.iconst 2, 1) := by decide +kernel
theorem dX7_init_251 : decode cX7_init 251 = .ok (.newarray .boolean, 2) := by decide +kernel
theorem dX7_init_253 : decode cX7_init 253 = .ok (.dup, 1) := by decide +kernel
theorem dX7_init_254 : decode cX7_init 254 = .ok (.iconst 0, 1) := by decide +kernel
theorem dX7_init_255 : decode cX7_init 255 = .ok (.iconst 0, 1) := by decide +kernel
theorem dX7_init_256 : decode cX7_init 256 = .ok (.bastore, 1) := by decide +kernel
theorem dX7_init_257 : decode cX7_init 257 = .ok (.dup, 1) := by decide +kernel
theorem dX7_init_258 : decode cX7_init 258 = .ok (.iconst 1, 1) := by decide +kernel
theorem dX7_init_259 : decode cX7_init 259 = .ok (.iconst 0, 1) := by decide +kernel
theorem dX7_init_260 : decode cX7_init 260 = .ok (.bastore, 1) := by decide +kernel
theorem dX7_init_261 : decode cX7_init 261 = .ok (.putfield 51, 3) := by decide +kernel
theorem dX7_init_264 : decode cX7_init 264 = .ok (.aload_n 0, 1) := by decide +kernel
theorem dX7_init_265 : decode cX7_init 265 = .ok (.iconst 4, 1) := by decide +kernel
theorem dX7_init_266 : decode cX7_init 266 = .ok (.newarray .int, 2) := by decide +kernel
theorem dX7_init_268 : decode cX7_init 268 = .ok (.dup, 1) := by decide +kernel
theorem dX7_init_269 : decode cX7_init 269 = .ok (.iconst 0, 1) := by decide +kernel
theorem dX7_init_270 : decode cX7_init 270 = .ok (.bipush (-4), 2) := by decide +kernel
theorem dX7_init_272 : decode cX7_init 272 = .ok (.iastore, 1) := by decide +kernel
theorem dX7_init_273 : decode cX7_init 273 = .ok (.dup, 1) := by decide +kernel
theorem dX7_init_274 : decode cX7_init 274 = .ok (.iconst 1, 1) := by decide +kernel
theorem dX7_init_275 : decode cX7_init 275 = .ok (.bipush (-4), 2) := by decide +kernel
theorem dX7_init_277 : decode cX7_init 277 = .ok (.iastore, 1) := by decide +kernel
theorem dX7_init_278 : decode cX7_init 278 = .ok (.dup, 1) := by decide +kernel
theorem dX7_init_279 : decode cX7_init 279 = .ok (.iconst 2, 1) := by decide +kernel
theorem dX7_init_280 : decode cX7_init 280 = .ok (.bipush (-4), 2) := by decide +kernel
theorem dX7_init_282 : decode cX7_init 282 = .ok (.iastore, 1) := by decide +kernel
theorem dX7_init_283 : decode cX7_init 283 = .ok (.dup, 1) := by decide +kernel
theorem dX7_init_284 : decode cX7_init 284 = .ok (.iconst 3, 1) := by decide +kernel
theorem dX7_init_285 : decode cX7_init 285 = .ok (.bipush (-4), 2) := by decide +kernel
theorem dX7_init_287 : decode cX7_init 287 = .ok (.iastore, 1) := by decide +kernel
theorem dX7_init_288 : decode cX7_init 288 = .ok (.putfield 55, 3) := by decide +kernel
theorem dX7_init_291 : decode cX7_init 291 = .ok (.aload_n 0, 1) := by decide +kernel
theorem dX7_init_292 : decode cX7_init 292 = .ok (.iconst 4, 1) := by decide +kernel
theorem dX7_init_293 : decode cX7_init 293 = .ok (.newarray .int, 2) := by decide +kernel
theorem dX7_init_295 : decode cX7_init 295 = .ok (.dup, 1) := by decide +kernel
theorem dX7_init_296 : decode cX7_init 296 = .ok (.iconst 0, 1) := by decide +kernel
theorem dX7_init_297 : decode cX7_init 297 = .ok (.iconst 0, 1) := by decide +kernel
theorem dX7_init_298 : decode cX7_init 298 = .ok (.iastore, 1) := by decide +kernel
theorem dX7_init_299 : decode cX7_init 299 = .ok (.dup, 1) := by decide +kernel
theorem dX7_init_300 : decode cX7_init 300 = .ok (.iconst 1, 1) := by decide +kernel
theorem dX7_init_301 : decode cX7_init 301 = .ok (.iconst 0, 1) := by decide +kernel
theorem dX7_init_302 : decode cX7_init 302 = .ok (.iastore, 1) := by decide +kernel
theorem dX7_init_303 : decode cX7_init 303 = .ok (.dup, 1) := by decide +kernel
theorem dX7_init_304 : decode cX7_init 304 = .ok (.iconst 2, 1) := by decide +kernel
theorem dX7_init_305 : decode cX7_init 305 = .ok (.iconst 0, 1) := by decide +kernel
theorem dX7_init_306 : decode cX7_init 306 = .ok (.iastore, 1) := by decide +kernel
theorem dX7_init_307 : decode cX7_init 307 = .ok (.dup, 1) := by decide +kernel
theorem dX7_init_308 : decode cX7_init 308 = .ok (.iconst 3, 1) := by decide +kernel
theorem dX7_init_309 : decode cX7_init 309 = .ok (.iconst 0, 1) := by decide +kernel
theorem dX7_init_310 : decode cX7_init 310 = .ok (.iastore, 1) := by decide +kernel
theorem dX7_init_311 : decode cX7_init 311 = .ok (.putfield 58, 3) := by decide +kernel
theorem dX7_init_314 : decode cX7_init 314 = .ok (.aload_n 0, 1) := by decide +kernel
theorem dX7_init_315 : decode cX7_init 315 = .ok (.sipush 160, 3) := by decide +kernel
theorem dX7_init_318 : decode cX7_init 318 = .ok (.newarray .int, 2) := by decide +kernel
theorem dX7_init_320 : decode cX7_init 320 = .ok (.putfield 61, 3) := by decide +kernel
theorem dX7_init_323 : decode cX7_init 323 = .ok (.return_, 1) := by decide +kernel
theorem dX7_in_0 : decode cX7_in 0 = .ok (.lload_n 0, 1) := by decide +kernel
theorem dX7_in_1 : decode cX7_in 1 = .ok (.lload_n 2, 1) := by decide +kernel
theorem dX7_in_2 : decode cX7_in 2 = .ok (.lcmp, 1) := by decide +kernel
theorem dX7_in_3 : decode cX7_in 3 = .ok (.ifCond .lt 14, 3) := by decide +kernel
theorem dX7_in_6 : decode cX7_in 6 = .ok (.lload_n 0, 1) := by decide +kernel
theorem dX7_in_7 : decode cX7_in 7 = .ok (.lload 4, 2) := by decide +kernel
theorem dX7_in_9 : decode cX7_in 9 = .ok (.lcmp, 1) := by decide +kernel
theorem dX7_in_10 : decode cX7_in 10 = .ok (.ifCond .gt 7, 3) := by decide +kernel
theorem dX7_in_13 : decode cX7_in 13 = .ok (.iconst 1, 1) := by decide +kernel
theorem dX7_in_14 : decode cX7_in 14 = .ok (.goto 4, 3) := by decide +kernel
theorem dX7_in_17 : decode cX7_in 17 = .ok (.iconst 0, 1) := by decide +kernel
theorem dX7_in_18 : decode cX7_in 18 = .ok (.ireturn, 1) := by decide +kernel
theorem dX7_feed_0 : decode cX7_feed 0 = .ok (.iload_n 1, 1) := by decide +kernel
theorem dX7_feed_1 : decode cX7_feed 1 = .ok (.i2l, 1) := by decide +kernel
theorem dX7_feed_2 : decode cX7_feed 2 = .ok (.lconst 0, 1) := by decide +kernel
theorem dX7_feed_3 : decode cX7_feed 3 = .ok (.ldc2_w 64, 3) := by decide +kernel
theorem dX7_feed_6 : decode cX7_feed 6 = .ok (.invokestatic 66, 3) := by decide +kernel
theorem dX7_feed_9 : decode cX7_feed 9 = .ok (.ifCond .ne 5, 3) := by decide +kernel
theorem dX7_feed_12 : decode cX7_feed 12 = .ok (.iconst (-1), 1) := by decide +kernel
theorem dX7_feed_13 : decode cX7_feed 13 = .ok (.ireturn, 1) := by decide +kernel
theorem dX7_feed_14 : decode cX7_feed 14 = .ok (.aload_n 0, 1) := by decide +kernel
theorem dX7_feed_15 : decode cX7_feed 15 = .ok (.getfield 70, 3) := by decide +kernel
theorem dX7_feed_18 : decode cX7_feed 18 = .ok (.sipush 320, 3) := by decide +kernel
theorem dX7_feed_21 : decode cX7_feed 21 = .ok (.if_icmp .ne 6, 3) := by decide +kernel
theorem dX7_feed_24 : decode cX7_feed 24 = .ok (.bipush (-3), 2) := by decide +kernel
theorem dX7_feed_26 : decode cX7_feed 26 = .ok (.ireturn, 1) := by decide +kernel
theorem dX7_feed_27 : decode cX7_feed 27 = .ok (.aload_n 0, 1) := by decide +kernel
theorem dX7_feed_28 : decode cX7_feed 28 = .ok (.getfield 13, 3) := by decide +kernel
theorem dX7_feed_31 : decode cX7_feed 31 = .ok (.aload_n 0, 1) := by decide +kernel
theorem dX7_feed_32 : decode cX7_feed 32 = .ok (.getfield 70, 3) := by decide +kernel
theorem dX7_feed_35 : decode cX7_feed 35 = .ok (.iload_n 1, 1) := by decide +kernel
theorem dX7_feed_36 : decode cX7_feed 36 = .ok (.iastore, 1) := by decide +kernel
theorem dX7_feed_37 : decode cX7_feed 37 = .ok (.aload_n 0, 1) := by decide +kernel
theorem dX7_feed_38 : decode cX7_feed 38 = .ok (.dup, 1) := by decide +kernel
theorem dX7_feed_39 : decode cX7_feed 39 = .ok (.getfield 70, 3) := by decide +kernel
theorem dX7_feed_42 : decode cX7_feed 42 = .ok (.iconst 1, 1) := by decide +kernel
theorem dX7_feed_43 : decode cX7_feed 43 = .ok (.iadd, 1) := by decide +kernel
theorem dX7_feed_44 : decode cX7_feed 44 = .ok (.putfield 70, 3) := by decide +kernel
theorem dX7_feed_47 : decode cX7_feed 47 = .ok (.aload_n 0, 1) := by decide +kernel
theorem dX7_feed_48 : decode cX7_feed 48 = .ok (.getfield 70, 3) := by decide +kernel
theorem dX7_feed_51 : decode cX7_feed 51 = .ok (.ireturn, 1) := by decide +kernel
theorem dX7_end_0 : decode cX7_end 0 = .ok (.iload_n 1, 1) := by decide +kernel
theorem dX7_end_1 : decode cX7_end 1 = .ok (.i2l, 1) := by decide +kernel
theorem dX7_end_2 : decode cX7_end 2 = .ok (.lconst 0, 1) := by decide +kernel
theorem dX7_end_3 : decode cX7_end 3 = .ok (.aload_n 0, 1) := by decide +kernel
theorem dX7_end_4 : decode cX7_end 4 = .ok (.getfield 70, 3) := by decide +kernel
theorem dX7_end_7 : decode cX7_end 7 = .ok (.i2l, 1) := by decide +kernel
theorem dX7_end_8 : decode cX7_end 8 = .ok (.invokestatic 66, 3) := by decide +kernel
theorem dX7_end_11 : decode cX7_end 11 = .ok (.ifCond .ne 5, 3) := by decide +kernel
theorem dX7_end_14 : decode cX7_end 14 = .ok (.iconst (-1), 1) := by decide +kernel
theorem dX7_end_15 : decode cX7_end 15 = .ok (.ireturn, 1) := by decide +kernel
theorem dX7_end_16 : decode cX7_end 16 = .ok (.aload_n 0, 1) := by decide +kernel
theorem dX7_end_17 : decode cX7_end 17 = .ok (.getfield 70, 3) := by decide +kernel
theorem dX7_end_20 : decode cX7_end 20 = .ok (.istore_n 2, 1) := by decide +kernel
theorem dX7_end_21 : decode cX7_end 21 = .ok (.aload_n 0, 1) := by decide +kernel
theorem dX7_end_22 : decode cX7_end 22 = .ok (.iload_n 1, 1) := by decide +kernel
theorem dX7_end_23 : decode cX7_end 23 = .ok (.putfield 70, 3) := by decide +kernel
theorem dX7_end_26 : decode cX7_end 26 = .ok (.iload_n 2, 1) := by decide +kernel
theorem dX7_end_27 : decode cX7_end 27 = .ok (.ireturn, 1) := by decide +kernel
theorem dX7_byteAt_0 : decode cX7_byteAt 0 = .ok (.iload_n 1, 1) := by decide +kernel
theorem dX7_byteAt_1 : decode cX7_byteAt 1 = .ok (.aload_n 0, 1) := by decide +kernel
theorem dX7_byteAt_2 : decode cX7_byteAt 2 = .ok (.getfield 70, 3) := by decide +kernel
theorem dX7_byteAt_5 : decode cX7_byteAt 5 = .ok (.if_icmp .ge 12, 3) := by decide +kernel
theorem dX7_byteAt_8 : decode cX7_byteAt 8 = .ok (.aload_n 0, 1) := by decide +kernel
theorem dX7_byteAt_9 : decode cX7_byteAt 9 = .ok (.getfield 13, 3) := by decide +kernel
theorem dX7_byteAt_12 : decode cX7_byteAt 12 = .ok (.iload_n 1, 1) := by decide +kernel
theorem dX7_byteAt_13 : decode cX7_byteAt 13 = .ok (.iaload, 1) := by decide +kernel
theorem dX7_byteAt_14 : decode cX7_byteAt 14 = .ok (.goto 5, 3) := by decide +kernel
theorem dX7_byteAt_17 : decode cX7_byteAt 17 = .ok (.bipush (-4), 2) := by decide +kernel
theorem dX7_byteAt_19 : decode cX7_byteAt 19 = .ok (.ireturn, 1) := by decide +kernel
theorem dX7_fails_0 : decode cX7_fails 0 = .ok (.aload_n 0, 1) := by decide +kernel
theorem dX7_fails_1 : decode cX7_fails 1 = .ok (.getfield 73, 3) := by decide +kernel
theorem dX7_fails_4 : decode cX7_fails 4 = .ok (.ifCond .ne 16, 3) := by decide +kernel
theorem dX7_fails_7 : decode cX7_fails 7 = .ok (.aload_n 0, 1) := by decide +kernel
theorem dX7_fails_8 : decode cX7_fails 8 = .ok (.iload_n 1, 1) := by decide +kernel
theorem dX7_fails_9 : decode cX7_fails 9 = .ok (.putfield 73, 3) := by decide +kernel
theorem dX7_fails_12 : decode cX7_fails 12 = .ok (.aload_n 0, 1) := by decide +kernel
theorem dX7_fails_13 : decode cX7_fails 13 = .ok (.aload_n 0, 1) := by decide +kernel
theorem dX7_fails_14 : decode cX7_fails 14 = .ok (.getfield 76, 3) := by decide +kernel
theorem dX7_fails_17 : decode cX7_fails 17 = .ok (.putfield 79, 3) := by decide +kernel
theorem dX7_fails_20 : decode cX7_fails 20 = .ok (.return_, 1) := by decide +kernel
theorem dX7_nameHere_0 : decode cX7_nameHere 0 = .ok (.iconst 0, 1) := by decide +kernel
theorem dX7_nameHere_1 : decode cX7_nameHere 1 = .ok (.istore_n 1, 1) := by decide +kernel
theorem dX7_nameHere_2 : decode cX7_nameHere 2 = .ok (.iload_n 1, 1) := by decide +kernel
theorem dX7_nameHere_3 : decode cX7_nameHere 3 = .ok (.iconst 5, 1) := by decide +kernel
theorem dX7_nameHere_4 : decode cX7_nameHere 4 = .ok (.if_icmp .ge 113, 3) := by decide +kernel
theorem dX7_nameHere_7 : decode cX7_nameHere 7 = .ok (.aload_n 0, 1) := by decide +kernel
theorem dX7_nameHere_8 : decode cX7_nameHere 8 = .ok (.getfield 82, 3) := by decide +kernel
theorem dX7_nameHere_11 : decode cX7_nameHere 11 = .ok (.iconst 1, 1) := by decide +kernel
theorem dX7_nameHere_12 : decode cX7_nameHere 12 = .ok (.if_icmp .ne 105, 3) := by decide +kernel
theorem dX7_nameHere_15 : decode cX7_nameHere 15 = .ok (.aload_n 0, 1) := by decide +kernel
theorem dX7_nameHere_16 : decode cX7_nameHere 16 = .ok (.getfield 85, 3) := by decide +kernel
theorem dX7_nameHere_19 : decode cX7_nameHere 19 = .ok (.aload_n 0, 1) := by decide +kernel
theorem dX7_nameHere_20 : decode cX7_nameHere 20 = .ok (.getfield 76, 3) := by decide +kernel
theorem dX7_nameHere_23 : decode cX7_nameHere 23 = .ok (.isub, 1) := by decide +kernel
theorem dX7_nameHere_24 : decode cX7_nameHere 24 = .ok (.aload_n 0, 1) := by decide +kernel
theorem dX7_nameHere_25 : decode cX7_nameHere 25 = .ok (.getfield 16, 3) := by decide +kernel
theorem dX7_nameHere_28 : decode cX7_nameHere 28 = .ok (.iload_n 1, 1) := by decide +kernel
theorem dX7_nameHere_29 : decode cX7_nameHere 29 = .ok (.iconst 1, 1) := by decide +kernel
theorem dX7_nameHere_30 : decode cX7_nameHere 30 = .ok (.iadd, 1) := by decide +kernel
theorem dX7_nameHere_31 : decode cX7_nameHere 31 = .ok (.iaload, 1) := by decide +kernel
theorem dX7_nameHere_32 : decode cX7_nameHere 32 = .ok (.aload_n 0, 1) := by decide +kernel
theorem dX7_nameHere_33 : decode cX7_nameHere 33 = .ok (.getfield 16, 3) := by decide +kernel
theorem dX7_nameHere_36 : decode cX7_nameHere 36 = .ok (.iload_n 1, 1) := by decide +kernel
theorem dX7_nameHere_37 : decode cX7_nameHere 37 = .ok (.iaload, 1) := by decide +kernel
theorem dX7_nameHere_38 : decode cX7_nameHere 38 = .ok (.isub, 1) := by decide +kernel
theorem dX7_nameHere_39 : decode cX7_nameHere 39 = .ok (.if_icmp .ne 7, 3) := by decide +kernel
theorem dX7_nameHere_42 : decode cX7_nameHere 42 = .ok (.iconst 1, 1) := by decide +kernel
theorem dX7_nameHere_43 : decode cX7_nameHere 43 = .ok (.goto 4, 3) := by decide +kernel
theorem dX7_nameHere_46 : decode cX7_nameHere 46 = .ok (.iconst 0, 1) := by decide +kernel
theorem dX7_nameHere_47 : decode cX7_nameHere 47 = .ok (.istore_n 2, 1) := by decide +kernel
theorem dX7_nameHere_48 : decode cX7_nameHere 48 = .ok (.iconst 0, 1) := by decide +kernel
theorem dX7_nameHere_49 : decode cX7_nameHere 49 = .ok (.istore_n 3, 1) := by decide +kernel
theorem dX7_nameHere_50 : decode cX7_nameHere 50 = .ok (.iload_n 2, 1) := by decide +kernel
theorem dX7_nameHere_51 : decode cX7_nameHere 51 = .ok (.ifCond .eq 54, 3) := by decide +kernel
theorem dX7_nameHere_54 : decode cX7_nameHere 54 = .ok (.iload_n 3, 1) := by decide +kernel
theorem dX7_nameHere_55 : decode cX7_nameHere 55 = .ok (.aload_n 0, 1) := by decide +kernel
theorem dX7_nameHere_56 : decode cX7_nameHere 56 = .ok (.getfield 85, 3) := by decide +kernel
theorem dX7_nameHere_59 : decode cX7_nameHere 59 = .ok (.aload_n 0, 1) := by decide +kernel
theorem dX7_nameHere_60 : decode cX7_nameHere 60 = .ok (.getfield 76, 3) := by decide +kernel
theorem dX7_nameHere_63 : decode cX7_nameHere 63 = .ok (.isub, 1) := by decide +kernel
theorem dX7_nameHere_64 : decode cX7_nameHere 64 = .ok (.if_icmp .ge 41, 3) := by decide +kernel
theorem dX7_nameHere_67 : decode cX7_nameHere 67 = .ok (.aload_n 0, 1) := by decide +kernel
theorem dX7_nameHere_68 : decode cX7_nameHere 68 = .ok (.aload_n 0, 1) := by decide +kernel
theorem dX7_nameHere_69 : decode cX7_nameHere 69 = .ok (.getfield 76, 3) := by decide +kernel
theorem dX7_nameHere_72 : decode cX7_nameHere 72 = .ok (.iload_n 3, 1) := by decide +kernel
theorem dX7_nameHere_73 : decode cX7_nameHere 73 = .ok (.iadd, 1) := by decide +kernel
theorem dX7_nameHere_74 : decode cX7_nameHere 74 = .ok (.invokevirtual 88, 3) := by decide +kernel
theorem dX7_nameHere_77 : decode cX7_nameHere 77 = .ok (.aload_n 0, 1) := by decide +kernel
theorem dX7_nameHere_78 : decode cX7_nameHere 78 = .ok (.getfield 19, 3) := by decide +kernel
theorem dX7_nameHere_81 : decode cX7_nameHere 81 = .ok (.aload_n 0, 1) := by decide +kernel
theorem dX7_nameHere_82 : decode cX7_nameHere 82 = .ok (.getfield 16, 3) := by decide +kernel
theorem dX7_nameHere_85 : decode cX7_nameHere 85 = .ok (.iload_n 1, 1) := by decide +kernel
theorem dX7_nameHere_86 : decode cX7_nameHere 86 = .ok (.iaload, 1) := by decide +kernel
theorem dX7_nameHere_87 : decode cX7_nameHere 87 = .ok (.iload_n 3, 1) := by decide +kernel
theorem dX7_nameHere_88 : decode cX7_nameHere 88 = .ok (.iadd, 1) := by decide +kernel
theorem dX7_nameHere_89 : decode cX7_nameHere 89 = .ok (.iaload, 1) := by decide +kernel
theorem dX7_nameHere_90 : decode cX7_nameHere 90 = .ok (.if_icmp .ne 7, 3) := by decide +kernel
theorem dX7_nameHere_93 : decode cX7_nameHere 93 = .ok (.iconst 1, 1) := by decide +kernel
theorem dX7_nameHere_94 : decode cX7_nameHere 94 = .ok (.goto 4, 3) := by decide +kernel
theorem dX7_nameHere_97 : decode cX7_nameHere 97 = .ok (.iconst 0, 1) := by decide +kernel
theorem dX7_nameHere_98 : decode cX7_nameHere 98 = .ok (.istore_n 2, 1) := by decide +kernel
theorem dX7_nameHere_99 : decode cX7_nameHere 99 = .ok (.iinc 3 1, 3) := by decide +kernel
theorem dX7_nameHere_102 : decode cX7_nameHere 102 = .ok (.goto (-52), 3) := by decide +kernel
theorem dX7_nameHere_105 : decode cX7_nameHere 105 = .ok (.iload_n 2, 1) := by decide +kernel
theorem dX7_nameHere_106 : decode cX7_nameHere 106 = .ok (.ifCond .eq 5, 3) := by decide +kernel
theorem dX7_nameHere_109 : decode cX7_nameHere 109 = .ok (.iload_n 1, 1) := by decide +kernel
theorem dX7_nameHere_110 : decode cX7_nameHere 110 = .ok (.ireturn, 1) := by decide +kernel
theorem dX7_nameHere_111 : decode cX7_nameHere 111 = .ok (.iinc 1 1, 3) := by decide +kernel
theorem dX7_nameHere_114 : decode cX7_nameHere 114 = .ok (.goto (-112), 3) := by decide +kernel
theorem dX7_nameHere_117 : decode cX7_nameHere 117 = .ok (.bipush (-4), 2) := by decide +kernel
theorem dX7_nameHere_119 : decode cX7_nameHere 119 = .ok (.ireturn, 1) := by decide +kernel
theorem dX7_readsOn_0 : decode cX7_readsOn 0 = .ok (.aload_n 0, 1) := by decide +kernel
theorem dX7_readsOn_1 : decode cX7_readsOn 1 = .ok (.getfield 73, 3) := by decide +kernel
theorem dX7_readsOn_4 : decode cX7_readsOn 4 = .ok (.ifCond .le 4, 3) := by decide +kernel
theorem dX7_readsOn_7 : decode cX7_readsOn 7 = .ok (.return_, 1) := by decide +kernel
theorem dX7_readsOn_8 : decode cX7_readsOn 8 = .ok (.aload_n 0, 1) := by decide +kernel
theorem dX7_readsOn_9 : decode cX7_readsOn 9 = .ok (.aload_n 0, 1) := by decide +kernel
theorem dX7_readsOn_10 : decode cX7_readsOn 10 = .ok (.getfield 85, 3) := by decide +kernel
theorem dX7_readsOn_13 : decode cX7_readsOn 13 = .ok (.invokevirtual 88, 3) := by decide +kernel
theorem dX7_readsOn_16 : decode cX7_readsOn 16 = .ok (.bipush 32, 2) := by decide +kernel
theorem dX7_readsOn_18 : decode cX7_readsOn 18 = .ok (.if_icmp .ne 16, 3) := by decide +kernel
theorem dX7_readsOn_21 : decode cX7_readsOn 21 = .ok (.aload_n 0, 1) := by decide +kernel
theorem dX7_readsOn_22 : decode cX7_readsOn 22 = .ok (.dup, 1) := by decide +kernel
theorem dX7_readsOn_23 : decode cX7_readsOn 23 = .ok (.getfield 85, 3) := by decide +kernel
theorem dX7_readsOn_26 : decode cX7_readsOn 26 = .ok (.iconst 1, 1) := by decide +kernel
theorem dX7_readsOn_27 : decode cX7_readsOn 27 = .ok (.iadd, 1) := by decide +kernel
theorem dX7_readsOn_28 : decode cX7_readsOn 28 = .ok (.putfield 85, 3) := by decide +kernel
theorem dX7_readsOn_31 : decode cX7_readsOn 31 = .ok (.goto (-23), 3) := by decide +kernel
theorem dX7_readsOn_34 : decode cX7_readsOn 34 = .ok (.aload_n 0, 1) := by decide +kernel
theorem dX7_readsOn_35 : decode cX7_readsOn 35 = .ok (.aload_n 0, 1) := by decide +kernel
theorem dX7_readsOn_36 : decode cX7_readsOn 36 = .ok (.getfield 85, 3) := by decide +kernel
theorem dX7_readsOn_39 : decode cX7_readsOn 39 = .ok (.putfield 76, 3) := by decide +kernel
theorem dX7_readsOn_42 : decode cX7_readsOn 42 = .ok (.aload_n 0, 1) := by decide +kernel
theorem dX7_readsOn_43 : decode cX7_readsOn 43 = .ok (.aload_n 0, 1) := by decide +kernel
theorem dX7_readsOn_44 : decode cX7_readsOn 44 = .ok (.getfield 85, 3) := by decide +kernel
theorem dX7_readsOn_47 : decode cX7_readsOn 47 = .ok (.invokevirtual 88, 3) := by decide +kernel
theorem dX7_readsOn_50 : decode cX7_readsOn 50 = .ok (.istore_n 1, 1) := by decide +kernel
theorem dX7_readsOn_51 : decode cX7_readsOn 51 = .ok (.aload_n 0, 1) := by decide +kernel
theorem dX7_readsOn_52 : decode cX7_readsOn 52 = .ok (.iconst 0, 1) := by decide +kernel
theorem dX7_readsOn_53 : decode cX7_readsOn 53 = .ok (.putfield 92, 3) := by decide +kernel
theorem dX7_readsOn_56 : decode cX7_readsOn 56 = .ok (.iload_n 1, 1) := by decide +kernel
theorem dX7_readsOn_57 : decode cX7_readsOn 57 = .ok (.bipush (-4), 2) := by decide +kernel
theorem dX7_readsOn_59 : decode cX7_readsOn 59 = .ok (.if_icmp .ne 11, 3) := by decide +kernel
theorem dX7_readsOn_62 : decode cX7_readsOn 62 = .ok (.aload_n 0, 1) := by decide +kernel
theorem dX7_readsOn_63 : decode cX7_readsOn 63 = .ok (.iconst 0, 1) := by decide +kernel
theorem dX7_readsOn_64 : decode cX7_readsOn 64 = .ok (.putfield 82, 3) := by decide +kernel
theorem dX7_readsOn_67 : decode cX7_readsOn 67 = .ok (.goto 218, 3) := by decide +kernel
theorem dX7_readsOn_70 : decode cX7_readsOn 70 = .ok (.iload_n 1, 1) := by decide +kernel
theorem dX7_readsOn_71 : decode cX7_readsOn 71 = .ok (.i2l, 1) := by decide +kernel
theorem dX7_readsOn_72 : decode cX7_readsOn 72 = .ok (.ldc2_w 95, 3) := by decide +kernel
theorem dX7_readsOn_75 : decode cX7_readsOn 75 = .ok (.ldc2_w 97, 3) := by decide +kernel
theorem dX7_readsOn_78 : decode cX7_readsOn 78 = .ok (.invokestatic 66, 3) := by decide +kernel
theorem dX7_readsOn_81 : decode cX7_readsOn 81 = .ok (.ifCond .eq 45, 3) := by decide +kernel
theorem dX7_readsOn_84 : decode cX7_readsOn 84 = .ok (.aload_n 0, 1) := by decide +kernel
theorem dX7_readsOn_85 : decode cX7_readsOn 85 = .ok (.aload_n 0, 1) := by decide +kernel
theorem dX7_readsOn_86 : decode cX7_readsOn 86 = .ok (.getfield 85, 3) := by decide +kernel
theorem dX7_readsOn_89 : decode cX7_readsOn 89 = .ok (.invokevirtual 88, 3) := by decide +kernel
theorem dX7_readsOn_92 : decode cX7_readsOn 92 = .ok (.i2l, 1) := by decide +kernel
theorem dX7_readsOn_93 : decode cX7_readsOn 93 = .ok (.ldc2_w 95, 3) := by decide +kernel
theorem dX7_readsOn_96 : decode cX7_readsOn 96 = .ok (.ldc2_w 97, 3) := by decide +kernel
theorem dX7_readsOn_99 : decode cX7_readsOn 99 = .ok (.invokestatic 66, 3) := by decide +kernel
theorem dX7_readsOn_102 : decode cX7_readsOn 102 = .ok (.ifCond .eq 16, 3) := by decide +kernel
theorem dX7_readsOn_105 : decode cX7_readsOn 105 = .ok (.aload_n 0, 1) := by decide +kernel
theorem dX7_readsOn_106 : decode cX7_readsOn 106 = .ok (.dup, 1) := by decide +kernel
theorem dX7_readsOn_107 : decode cX7_readsOn 107 = .ok (.getfield 85, 3) := by decide +kernel
theorem dX7_readsOn_110 : decode cX7_readsOn 110 = .ok (.iconst 1, 1) := by decide +kernel
theorem dX7_readsOn_111 : decode cX7_readsOn 111 = .ok (.iadd, 1) := by decide +kernel
theorem dX7_readsOn_112 : decode cX7_readsOn 112 = .ok (.putfield 85, 3) := by decide +kernel
theorem dX7_readsOn_115 : decode cX7_readsOn 115 = .ok (.goto (-31), 3) := by decide +kernel
theorem dX7_readsOn_118 : decode cX7_readsOn 118 = .ok (.aload_n 0, 1) := by decide +kernel
theorem dX7_readsOn_119 : decode cX7_readsOn 119 = .ok (.iconst 1, 1) := by decide +kernel
theorem dX7_readsOn_120 : decode cX7_readsOn 120 = .ok (.putfield 82, 3) := by decide +kernel
theorem dX7_readsOn_123 : decode cX7_readsOn 123 = .ok (.goto 162, 3) := by decide +kernel
theorem dX7_readsOn_126 : decode cX7_readsOn 126 = .ok (.iload_n 1, 1) := by decide +kernel
theorem dX7_readsOn_127 : decode cX7_readsOn 127 = .ok (.i2l, 1) := by decide +kernel
theorem dX7_readsOn_128 : decode cX7_readsOn 128 = .ok (.ldc2_w 99, 3) := by decide +kernel
theorem dX7_readsOn_131 : decode cX7_readsOn 131 = .ok (.ldc2_w 101, 3) := by decide +kernel
theorem dX7_readsOn_134 : decode cX7_readsOn 134 = .ok (.invokestatic 66, 3) := by decide +kernel
theorem dX7_readsOn_137 : decode cX7_readsOn 137 = .ok (.ifCond .eq 106, 3) := by decide +kernel
theorem dX7_readsOn_140 : decode cX7_readsOn 140 = .ok (.aload_n 0, 1) := by decide +kernel
theorem dX7_readsOn_141 : decode cX7_readsOn 141 = .ok (.aload_n 0, 1) := by decide +kernel
theorem dX7_readsOn_142 : decode cX7_readsOn 142 = .ok (.getfield 85, 3) := by decide +kernel
theorem dX7_readsOn_145 : decode cX7_readsOn 145 = .ok (.invokevirtual 88, 3) := by decide +kernel
theorem dX7_readsOn_148 : decode cX7_readsOn 148 = .ok (.i2l, 1) := by decide +kernel
theorem dX7_readsOn_149 : decode cX7_readsOn 149 = .ok (.ldc2_w 99, 3) := by decide +kernel
theorem dX7_readsOn_152 : decode cX7_readsOn 152 = .ok (.ldc2_w 101, 3) := by decide +kernel
theorem dX7_readsOn_155 : decode cX7_readsOn 155 = .ok (.invokestatic 66, 3) := by decide +kernel
theorem dX7_readsOn_158 : decode cX7_readsOn 158 = .ok (.ifCond .eq 59, 3) := by decide +kernel
theorem dX7_readsOn_161 : decode cX7_readsOn 161 = .ok (.aload_n 0, 1) := by decide +kernel
theorem dX7_readsOn_162 : decode cX7_readsOn 162 = .ok (.aload_n 0, 1) := by decide +kernel
theorem dX7_readsOn_163 : decode cX7_readsOn 163 = .ok (.getfield 85, 3) := by decide +kernel
theorem dX7_readsOn_166 : decode cX7_readsOn 166 = .ok (.aload_n 0, 1) := by decide +kernel
theorem dX7_readsOn_167 : decode cX7_readsOn 167 = .ok (.getfield 76, 3) := by decide +kernel
theorem dX7_readsOn_170 : decode cX7_readsOn 170 = .ok (.isub, 1) := by decide +kernel
theorem dX7_readsOn_171 : decode cX7_readsOn 171 = .ok (.iconst 4, 1) := by decide +kernel
theorem dX7_readsOn_172 : decode cX7_readsOn 172 = .ok (.if_icmp .ge 25, 3) := by decide +kernel
theorem dX7_readsOn_175 : decode cX7_readsOn 175 = .ok (.bipush 10, 2) := by decide +kernel
theorem dX7_readsOn_177 : decode cX7_readsOn 177 = .ok (.aload_n 0, 1) := by decide +kernel
theorem dX7_readsOn_178 : decode cX7_readsOn 178 = .ok (.getfield 92, 3) := by decide +kernel
theorem dX7_readsOn_181 : decode cX7_readsOn 181 = .ok (.imul, 1) := by decide +kernel
theorem dX7_readsOn_182 : decode cX7_readsOn 182 = .ok (.aload_n 0, 1) := by decide +kernel
theorem dX7_readsOn_183 : decode cX7_readsOn 183 = .ok (.aload_n 0, 1) := by decide +kernel
theorem dX7_readsOn_184 : decode cX7_readsOn 184 = .ok (.getfield 85, 3) := by decide +kernel
theorem dX7_readsOn_187 : decode cX7_readsOn 187 = .ok (.invokevirtual 88, 3) := by decide +kernel
theorem dX7_readsOn_190 : decode cX7_readsOn 190 = .ok (.iadd, 1) := by decide +kernel
theorem dX7_readsOn_191 : decode cX7_readsOn 191 = .ok (.bipush 48, 2) := by decide +kernel
theorem dX7_readsOn_193 : decode cX7_readsOn 193 = .ok (.isub, 1) := by decide +kernel
theorem dX7_readsOn_194 : decode cX7_readsOn 194 = .ok (.goto 7, 3) := by decide +kernel
theorem dX7_readsOn_197 : decode cX7_readsOn 197 = .ok (.aload_n 0, 1) := by decide +kernel
theorem dX7_readsOn_198 : decode cX7_readsOn 198 = .ok (.getfield 92, 3) := by decide +kernel
theorem dX7_readsOn_201 : decode cX7_readsOn 201 = .ok (.putfield 92, 3) := by decide +kernel
theorem dX7_readsOn_204 : decode cX7_readsOn 204 = .ok (.aload_n 0, 1) := by decide +kernel
theorem dX7_readsOn_205 : decode cX7_readsOn 205 = .ok (.dup, 1) := by decide +kernel
theorem dX7_readsOn_206 : decode cX7_readsOn 206 = .ok (.getfield 85, 3) := by decide +kernel
theorem dX7_readsOn_209 : decode cX7_readsOn 209 = .ok (.iconst 1, 1) := by decide +kernel
theorem dX7_readsOn_210 : decode cX7_readsOn 210 = .ok (.iadd, 1) := by decide +kernel
theorem dX7_readsOn_211 : decode cX7_readsOn 211 = .ok (.putfield 85, 3) := by decide +kernel
theorem dX7_readsOn_214 : decode cX7_readsOn 214 = .ok (.goto (-74), 3) := by decide +kernel
theorem dX7_readsOn_217 : decode cX7_readsOn 217 = .ok (.aload_n 0, 1) := by decide +kernel
theorem dX7_readsOn_218 : decode cX7_readsOn 218 = .ok (.iconst 2, 1) := by decide +kernel
theorem dX7_readsOn_219 : decode cX7_readsOn 219 = .ok (.putfield 82, 3) := by decide +kernel
theorem dX7_readsOn_222 : decode cX7_readsOn 222 = .ok (.aload_n 0, 1) := by decide +kernel
theorem dX7_readsOn_223 : decode cX7_readsOn 223 = .ok (.getfield 85, 3) := by decide +kernel
theorem dX7_readsOn_226 : decode cX7_readsOn 226 = .ok (.aload_n 0, 1) := by decide +kernel
theorem dX7_readsOn_227 : decode cX7_readsOn 227 = .ok (.getfield 76, 3) := by decide +kernel
theorem dX7_readsOn_230 : decode cX7_readsOn 230 = .ok (.isub, 1) := by decide +kernel
theorem dX7_readsOn_231 : decode cX7_readsOn 231 = .ok (.iconst 4, 1) := by decide +kernel
theorem dX7_readsOn_232 : decode cX7_readsOn 232 = .ok (.if_icmp .le 53, 3) := by decide +kernel
theorem dX7_readsOn_235 : decode cX7_readsOn 235 = .ok (.aload_n 0, 1) := by decide +kernel
theorem dX7_readsOn_236 : decode cX7_readsOn 236 = .ok (.iconst 1, 1) := by decide +kernel
theorem dX7_readsOn_237 : decode cX7_readsOn 237 = .ok (.invokevirtual 103, 3) := by decide +kernel
theorem dX7_readsOn_240 : decode cX7_readsOn 240 = .ok (.goto 45, 3) := by decide +kernel
theorem dX7_readsOn_243 : decode cX7_readsOn 243 = .ok (.aload_n 0, 1) := by decide +kernel
theorem dX7_readsOn_244 : decode cX7_readsOn 244 = .ok (.iload_n 1, 1) := by decide +kernel
theorem dX7_readsOn_245 : decode cX7_readsOn 245 = .ok (.bipush 45, 2) := by decide +kernel
theorem dX7_readsOn_247 : decode cX7_readsOn 247 = .ok (.if_icmp .ne 7, 3) := by decide +kernel
theorem dX7_readsOn_250 : decode cX7_readsOn 250 = .ok (.iconst 4, 1) := by decide +kernel
theorem dX7_readsOn_251 : decode cX7_readsOn 251 = .ok (.goto 4, 3) := by decide +kernel
theorem dX7_readsOn_254 : decode cX7_readsOn 254 = .ok (.iconst 3, 1) := by decide +kernel
theorem dX7_readsOn_255 : decode cX7_readsOn 255 = .ok (.putfield 82, 3) := by decide +kernel
theorem dX7_readsOn_258 : decode cX7_readsOn 258 = .ok (.aload_n 0, 1) := by decide +kernel
theorem dX7_readsOn_259 : decode cX7_readsOn 259 = .ok (.dup, 1) := by decide +kernel
theorem dX7_readsOn_260 : decode cX7_readsOn 260 = .ok (.getfield 85, 3) := by decide +kernel
theorem dX7_readsOn_263 : decode cX7_readsOn 263 = .ok (.iconst 1, 1) := by decide +kernel
theorem dX7_readsOn_264 : decode cX7_readsOn 264 = .ok (.iadd, 1) := by decide +kernel
theorem dX7_readsOn_265 : decode cX7_readsOn 265 = .ok (.putfield 85, 3) := by decide +kernel
theorem dX7_readsOn_268 : decode cX7_readsOn 268 = .ok (.iload_n 1, 1) := by decide +kernel
theorem dX7_readsOn_269 : decode cX7_readsOn 269 = .ok (.bipush 59, 2) := by decide +kernel
theorem dX7_readsOn_271 : decode cX7_readsOn 271 = .ok (.if_icmp .eq 14, 3) := by decide +kernel
theorem dX7_readsOn_274 : decode cX7_readsOn 274 = .ok (.iload_n 1, 1) := by decide +kernel
theorem dX7_readsOn_275 : decode cX7_readsOn 275 = .ok (.bipush 45, 2) := by decide +kernel
theorem dX7_readsOn_277 : decode cX7_readsOn 277 = .ok (.if_icmp .eq 8, 3) := by decide +kernel
theorem dX7_readsOn_280 : decode cX7_readsOn 280 = .ok (.aload_n 0, 1) := by decide +kernel
theorem dX7_readsOn_281 : decode cX7_readsOn 281 = .ok (.iconst 1, 1) := by decide +kernel
theorem dX7_readsOn_282 : decode cX7_readsOn 282 = .ok (.invokevirtual 103, 3) := by decide +kernel
theorem dX7_readsOn_285 : decode cX7_readsOn 285 = .ok (.return_, 1) := by decide +kernel
theorem dX7_numberRead_0 : decode cX7_numberRead 0 = .ok (.aload_n 0, 1) := by decide +kernel
theorem dX7_numberRead_1 : decode cX7_numberRead 1 = .ok (.getfield 73, 3) := by decide +kernel
theorem dX7_numberRead_4 : decode cX7_numberRead 4 = .ok (.ifCond .ne 16, 3) := by decide +kernel
theorem dX7_numberRead_7 : decode cX7_numberRead 7 = .ok (.aload_n 0, 1) := by decide +kernel
theorem dX7_numberRead_8 : decode cX7_numberRead 8 = .ok (.getfield 82, 3) := by decide +kernel
theorem dX7_numberRead_11 : decode cX7_numberRead 11 = .ok (.iconst 2, 1) := by decide +kernel
theorem dX7_numberRead_12 : decode cX7_numberRead 12 = .ok (.if_icmp .eq 8, 3) := by decide +kernel
theorem dX7_numberRead_15 : decode cX7_numberRead 15 = .ok (.aload_n 0, 1) := by decide +kernel
theorem dX7_numberRead_16 : decode cX7_numberRead 16 = .ok (.iconst 2, 1) := by decide +kernel
theorem dX7_numberRead_17 : decode cX7_numberRead 17 = .ok (.invokevirtual 103, 3) := by decide +kernel
theorem dX7_numberRead_20 : decode cX7_numberRead 20 = .ok (.aload_n 0, 1) := by decide +kernel
theorem dX7_numberRead_21 : decode cX7_numberRead 21 = .ok (.getfield 73, 3) := by decide +kernel
theorem dX7_numberRead_24 : decode cX7_numberRead 24 = .ok (.ifCond .ne 23, 3) := by decide +kernel
theorem dX7_numberRead_27 : decode cX7_numberRead 27 = .ok (.aload_n 0, 1) := by decide +kernel
theorem dX7_numberRead_28 : decode cX7_numberRead 28 = .ok (.getfield 92, 3) := by decide +kernel
theorem dX7_numberRead_31 : decode cX7_numberRead 31 = .ok (.i2l, 1) := by decide +kernel
theorem dX7_numberRead_32 : decode cX7_numberRead 32 = .ok (.iload_n 1, 1) := by decide +kernel
theorem dX7_numberRead_33 : decode cX7_numberRead 33 = .ok (.i2l, 1) := by decide +kernel
theorem dX7_numberRead_34 : decode cX7_numberRead 34 = .ok (.iload_n 2, 1) := by decide +kernel
theorem dX7_numberRead_35 : decode cX7_numberRead 35 = .ok (.i2l, 1) := by decide +kernel
theorem dX7_numberRead_36 : decode cX7_numberRead 36 = .ok (.invokestatic 66, 3) := by decide +kernel
theorem dX7_numberRead_39 : decode cX7_numberRead 39 = .ok (.ifCond .ne 8, 3) := by decide +kernel
theorem dX7_numberRead_42 : decode cX7_numberRead 42 = .ok (.aload_n 0, 1) := by decide +kernel
theorem dX7_numberRead_43 : decode cX7_numberRead 43 = .ok (.iconst 3, 1) := by decide +kernel
theorem dX7_numberRead_44 : decode cX7_numberRead 44 = .ok (.invokevirtual 103, 3) := by decide +kernel
theorem dX7_numberRead_47 : decode cX7_numberRead 47 = .ok (.aload_n 0, 1) := by decide +kernel
theorem dX7_numberRead_48 : decode cX7_numberRead 48 = .ok (.getfield 73, 3) := by decide +kernel
theorem dX7_numberRead_51 : decode cX7_numberRead 51 = .ok (.ifCond .ne 10, 3) := by decide +kernel
theorem dX7_numberRead_54 : decode cX7_numberRead 54 = .ok (.aload_n 0, 1) := by decide +kernel
theorem dX7_numberRead_55 : decode cX7_numberRead 55 = .ok (.getfield 92, 3) := by decide +kernel
theorem dX7_numberRead_58 : decode cX7_numberRead 58 = .ok (.goto 4, 3) := by decide +kernel
theorem dX7_numberRead_61 : decode cX7_numberRead 61 = .ok (.iload_n 1, 1) := by decide +kernel
theorem dX7_numberRead_62 : decode cX7_numberRead 62 = .ok (.istore_n 3, 1) := by decide +kernel
theorem dX7_numberRead_63 : decode cX7_numberRead 63 = .ok (.aload_n 0, 1) := by decide +kernel
theorem dX7_numberRead_64 : decode cX7_numberRead 64 = .ok (.invokevirtual 107, 3) := by decide +kernel
theorem dX7_numberRead_67 : decode cX7_numberRead 67 = .ok (.iload_n 3, 1) := by decide +kernel
theorem dX7_numberRead_68 : decode cX7_numberRead 68 = .ok (.ireturn, 1) := by decide +kernel
theorem dX7_isLength_0 : decode cX7_isLength 0 = .ok (.iload_n 0, 1) := by decide +kernel
theorem dX7_isLength_1 : decode cX7_isLength 1 = .ok (.ifCond .le 20, 3) := by decide +kernel
theorem dX7_isLength_4 : decode cX7_isLength 4 = .ok (.iload_n 0, 1) := by decide +kernel
theorem dX7_isLength_5 : decode cX7_isLength 5 = .ok (.bipush 13, 2) := by decide +kernel
theorem dX7_isLength_7 : decode cX7_isLength 7 = .ok (.if_icmp .ge 14, 3) := by decide +kernel
theorem dX7_isLength_10 : decode cX7_isLength 10 = .ok (.bipush 12, 2) := by decide +kernel
theorem dX7_isLength_12 : decode cX7_isLength 12 = .ok (.iload_n 0, 1) := by decide +kernel
theorem dX7_isLength_13 : decode cX7_isLength 13 = .ok (.irem, 1) := by decide +kernel
theorem dX7_isLength_14 : decode cX7_isLength 14 = .ok (.ifCond .ne 7, 3) := by decide +kernel
theorem dX7_isLength_17 : decode cX7_isLength 17 = .ok (.iconst 1, 1) := by decide +kernel
theorem dX7_isLength_18 : decode cX7_isLength 18 = .ok (.goto 4, 3) := by decide +kernel
theorem dX7_isLength_21 : decode cX7_isLength 21 = .ok (.iconst 0, 1) := by decide +kernel
theorem dX7_isLength_22 : decode cX7_isLength 22 = .ok (.ireturn, 1) := by decide +kernel
theorem dX7_turning_0 : decode cX7_turning 0 = .ok (.iconst 0, 1) := by decide +kernel
theorem dX7_turning_1 : decode cX7_turning 1 = .ok (.istore_n 2, 1) := by decide +kernel
theorem dX7_turning_2 : decode cX7_turning 2 = .ok (.iconst 0, 1) := by decide +kernel
theorem dX7_turning_3 : decode cX7_turning 3 = .ok (.istore_n 3, 1) := by decide +kernel
theorem dX7_turning_4 : decode cX7_turning 4 = .ok (.iload_n 3, 1) := by decide +kernel
theorem dX7_turning_5 : decode cX7_turning 5 = .ok (.aload_n 0, 1) := by decide +kernel
theorem dX7_turning_6 : decode cX7_turning 6 = .ok (.getfield 7, 3) := by decide +kernel
theorem dX7_turning_9 : decode cX7_turning 9 = .ok (.iload_n 1, 1) := by decide +kernel
theorem dX7_turning_10 : decode cX7_turning 10 = .ok (.bipush 76, 2) := by decide +kernel
theorem dX7_turning_12 : decode cX7_turning 12 = .ok (.iadd, 1) := by decide +kernel
theorem dX7_turning_13 : decode cX7_turning 13 = .ok (.iaload, 1) := by decide +kernel
theorem dX7_turning_14 : decode cX7_turning 14 = .ok (.if_icmp .ge 22, 3) := by decide +kernel
theorem dX7_turning_17 : decode cX7_turning 17 = .ok (.iload_n 2, 1) := by decide +kernel
theorem dX7_turning_18 : decode cX7_turning 18 = .ok (.iconst 1, 1) := by decide +kernel
theorem dX7_turning_19 : decode cX7_turning 19 = .ok (.aload_n 0, 1) := by decide +kernel
theorem dX7_turning_20 : decode cX7_turning 20 = .ok (.getfield 7, 3) := by decide +kernel
theorem dX7_turning_23 : decode cX7_turning 23 = .ok (.iload_n 1, 1) := by decide +kernel
theorem dX7_turning_24 : decode cX7_turning 24 = .ok (.iload_n 3, 1) := by decide +kernel
theorem dX7_turning_25 : decode cX7_turning 25 = .ok (.iadd, 1) := by decide +kernel
theorem dX7_turning_26 : decode cX7_turning 26 = .ok (.iaload, 1) := by decide +kernel
theorem dX7_turning_27 : decode cX7_turning 27 = .ok (.isub, 1) := by decide +kernel
theorem dX7_turning_28 : decode cX7_turning 28 = .ok (.iadd, 1) := by decide +kernel
theorem dX7_turning_29 : decode cX7_turning 29 = .ok (.istore_n 2, 1) := by decide +kernel
theorem dX7_turning_30 : decode cX7_turning 30 = .ok (.iinc 3 1, 3) := by decide +kernel
theorem dX7_turning_33 : decode cX7_turning 33 = .ok (.goto (-29), 3) := by decide +kernel
theorem dX7_turning_36 : decode cX7_turning 36 = .ok (.iload_n 2, 1) := by decide +kernel
theorem dX7_turning_37 : decode cX7_turning 37 = .ok (.ireturn, 1) := by decide +kernel
theorem dX7_readJoint_0 : decode cX7_readJoint 0 = .ok (.aload_n 0, 1) := by decide +kernel
theorem dX7_readJoint_1 : decode cX7_readJoint 1 = .ok (.getfield 7, 3) := by decide +kernel
theorem dX7_readJoint_4 : decode cX7_readJoint 4 = .ok (.sipush 313, 3) := by decide +kernel
theorem dX7_readJoint_7 : decode cX7_readJoint 7 = .ok (.iaload, 1) := by decide +kernel
theorem dX7_readJoint_8 : decode cX7_readJoint 8 = .ok (.istore_n 2, 1) := by decide +kernel
theorem dX7_readJoint_9 : decode cX7_readJoint 9 = .ok (.iload_n 2, 1) := by decide +kernel
theorem dX7_readJoint_10 : decode cX7_readJoint 10 = .ok (.bipush 6, 2) := by decide +kernel
theorem dX7_readJoint_12 : decode cX7_readJoint 12 = .ok (.if_icmp .eq 18, 3) := by decide +kernel
theorem dX7_readJoint_15 : decode cX7_readJoint 15 = .ok (.iload_n 1, 1) := by decide +kernel
theorem dX7_readJoint_16 : decode cX7_readJoint 16 = .ok (.ifCond .ne 20, 3) := by decide +kernel
theorem dX7_readJoint_19 : decode cX7_readJoint 19 = .ok (.aload_n 0, 1) := by decide +kernel
theorem dX7_readJoint_20 : decode cX7_readJoint 20 = .ok (.sipush 237, 3) := by decide +kernel
theorem dX7_readJoint_23 : decode cX7_readJoint 23 = .ok (.invokevirtual 110, 3) := by decide +kernel
theorem dX7_readJoint_26 : decode cX7_readJoint 26 = .ok (.iconst 4, 1) := by decide +kernel
theorem dX7_readJoint_27 : decode cX7_readJoint 27 = .ok (.if_icmp .ne 9, 3) := by decide +kernel
theorem dX7_readJoint_30 : decode cX7_readJoint 30 = .ok (.aload_n 0, 1) := by decide +kernel
theorem dX7_readJoint_31 : decode cX7_readJoint 31 = .ok (.iconst 5, 1) := by decide +kernel
theorem dX7_readJoint_32 : decode cX7_readJoint 32 = .ok (.invokevirtual 103, 3) := by decide +kernel
theorem dX7_readJoint_35 : decode cX7_readJoint 35 = .ok (.return_, 1) := by decide +kernel
theorem dX7_readJoint_36 : decode cX7_readJoint 36 = .ok (.aload_n 0, 1) := by decide +kernel
theorem dX7_readJoint_37 : decode cX7_readJoint 37 = .ok (.invokevirtual 107, 3) := by decide +kernel
theorem dX7_readJoint_40 : decode cX7_readJoint 40 = .ok (.aload_n 0, 1) := by decide +kernel
theorem dX7_readJoint_41 : decode cX7_readJoint 41 = .ok (.getfield 73, 3) := by decide +kernel
theorem dX7_readJoint_44 : decode cX7_readJoint 44 = .ok (.ifCond .ne 15, 3) := by decide +kernel
theorem dX7_readJoint_47 : decode cX7_readJoint 47 = .ok (.aload_n 0, 1) := by decide +kernel
theorem dX7_readJoint_48 : decode cX7_readJoint 48 = .ok (.getfield 82, 3) := by decide +kernel
theorem dX7_readJoint_51 : decode cX7_readJoint 51 = .ok (.iconst 4, 1) := by decide +kernel
theorem dX7_readJoint_52 : decode cX7_readJoint 52 = .ok (.if_icmp .ne 7, 3) := by decide +kernel
theorem dX7_readJoint_55 : decode cX7_readJoint 55 = .ok (.iconst 1, 1) := by decide +kernel
theorem dX7_readJoint_56 : decode cX7_readJoint 56 = .ok (.goto 4, 3) := by decide +kernel
theorem dX7_readJoint_59 : decode cX7_readJoint 59 = .ok (.iconst 0, 1) := by decide +kernel
theorem dX7_readJoint_60 : decode cX7_readJoint 60 = .ok (.istore_n 3, 1) := by decide +kernel
theorem dX7_readJoint_61 : decode cX7_readJoint 61 = .ok (.iload_n 3, 1) := by decide +kernel
theorem dX7_readJoint_62 : decode cX7_readJoint 62 = .ok (.ifCond .eq 7, 3) := by decide +kernel
theorem dX7_readJoint_65 : decode cX7_readJoint 65 = .ok (.aload_n 0, 1) := by decide +kernel
theorem dX7_readJoint_66 : decode cX7_readJoint 66 = .ok (.invokevirtual 107, 3) := by decide +kernel
theorem dX7_readJoint_69 : decode cX7_readJoint 69 = .ok (.aload_n 0, 1) := by decide +kernel
theorem dX7_readJoint_70 : decode cX7_readJoint 70 = .ok (.iconst 0, 1) := by decide +kernel
theorem dX7_readJoint_71 : decode cX7_readJoint 71 = .ok (.sipush 9999, 3) := by decide +kernel
theorem dX7_readJoint_74 : decode cX7_readJoint 74 = .ok (.invokevirtual 113, 3) := by decide +kernel
theorem dX7_readJoint_77 : decode cX7_readJoint 77 = .ok (.istore 4, 2) := by decide +kernel
theorem dX7_readJoint_79 : decode cX7_readJoint 79 = .ok (.aload_n 0, 1) := by decide +kernel
theorem dX7_readJoint_80 : decode cX7_readJoint 80 = .ok (.getfield 7, 3) := by decide +kernel
theorem dX7_readJoint_83 : decode cX7_readJoint 83 = .ok (.sipush 237, 3) := by decide +kernel
theorem dX7_readJoint_86 : decode cX7_readJoint 86 = .ok (.iload_n 2, 1) := by decide +kernel
theorem dX7_readJoint_87 : decode cX7_readJoint 87 = .ok (.iadd, 1) := by decide +kernel
theorem dX7_readJoint_88 : decode cX7_readJoint 88 = .ok (.iload_n 1, 1) := by decide +kernel
theorem dX7_readJoint_89 : decode cX7_readJoint 89 = .ok (.iastore, 1) := by decide +kernel
theorem dX7_readJoint_90 : decode cX7_readJoint 90 = .ok (.aload_n 0, 1) := by decide +kernel
theorem dX7_readJoint_91 : decode cX7_readJoint 91 = .ok (.getfield 7, 3) := by decide +kernel
theorem dX7_readJoint_94 : decode cX7_readJoint 94 = .ok (.sipush 243, 3) := by decide +kernel
theorem dX7_readJoint_97 : decode cX7_readJoint 97 = .ok (.iload_n 2, 1) := by decide +kernel
theorem dX7_readJoint_98 : decode cX7_readJoint 98 = .ok (.iadd, 1) := by decide +kernel
theorem dX7_readJoint_99 : decode cX7_readJoint 99 = .ok (.iload_n 3, 1) := by decide +kernel
theorem dX7_readJoint_100 : decode cX7_readJoint 100 = .ok (.ifCond .eq 9, 3) := by decide +kernel
theorem dX7_readJoint_103 : decode cX7_readJoint 103 = .ok (.iload 4, 2) := by decide +kernel
theorem dX7_readJoint_105 : decode cX7_readJoint 105 = .ok (.ineg, 1) := by decide +kernel
theorem dX7_readJoint_106 : decode cX7_readJoint 106 = .ok (.goto 5, 3) := by decide +kernel
theorem dX7_readJoint_109 : decode cX7_readJoint 109 = .ok (.iload 4, 2) := by decide +kernel
theorem dX7_readJoint_111 : decode cX7_readJoint 111 = .ok (.iastore, 1) := by decide +kernel
theorem dX7_readJoint_112 : decode cX7_readJoint 112 = .ok (.aload_n 0, 1) := by decide +kernel
theorem dX7_readJoint_113 : decode cX7_readJoint 113 = .ok (.getfield 7, 3) := by decide +kernel
theorem dX7_readJoint_116 : decode cX7_readJoint 116 = .ok (.sipush 313, 3) := by decide +kernel
theorem dX7_readJoint_119 : decode cX7_readJoint 119 = .ok (.dup2, 1) := by decide +kernel
theorem dX7_readJoint_120 : decode cX7_readJoint 120 = .ok (.iaload, 1) := by decide +kernel
theorem dX7_readJoint_121 : decode cX7_readJoint 121 = .ok (.iconst 1, 1) := by decide +kernel
theorem dX7_readJoint_122 : decode cX7_readJoint 122 = .ok (.iadd, 1) := by decide +kernel
theorem dX7_readJoint_123 : decode cX7_readJoint 123 = .ok (.iastore, 1) := by decide +kernel
theorem dX7_readJoint_124 : decode cX7_readJoint 124 = .ok (.return_, 1) := by decide +kernel
theorem dX7_readBeam_0 : decode cX7_readBeam 0 = .ok (.aload_n 0, 1) := by decide +kernel
theorem dX7_readBeam_1 : decode cX7_readBeam 1 = .ok (.getfield 7, 3) := by decide +kernel
theorem dX7_readBeam_4 : decode cX7_readBeam 4 = .ok (.sipush 314, 3) := by decide +kernel
theorem dX7_readBeam_7 : decode cX7_readBeam 7 = .ok (.iaload, 1) := by decide +kernel
theorem dX7_readBeam_8 : decode cX7_readBeam 8 = .ok (.istore_n 1, 1) := by decide +kernel
theorem dX7_readBeam_9 : decode cX7_readBeam 9 = .ok (.iload_n 1, 1) := by decide +kernel
theorem dX7_readBeam_10 : decode cX7_readBeam 10 = .ok (.bipush 10, 2) := by decide +kernel
theorem dX7_readBeam_12 : decode cX7_readBeam 12 = .ok (.if_icmp .ne 9, 3) := by decide +kernel
theorem dX7_readBeam_15 : decode cX7_readBeam 15 = .ok (.aload_n 0, 1) := by decide +kernel
theorem dX7_readBeam_16 : decode cX7_readBeam 16 = .ok (.iconst 5, 1) := by decide +kernel
theorem dX7_readBeam_17 : decode cX7_readBeam 17 = .ok (.invokevirtual 103, 3) := by decide +kernel
theorem dX7_readBeam_20 : decode cX7_readBeam 20 = .ok (.return_, 1) := by decide +kernel
theorem dX7_readBeam_21 : decode cX7_readBeam 21 = .ok (.aload_n 0, 1) := by decide +kernel
theorem dX7_readBeam_22 : decode cX7_readBeam 22 = .ok (.invokevirtual 107, 3) := by decide +kernel
theorem dX7_readBeam_25 : decode cX7_readBeam 25 = .ok (.aload_n 0, 1) := by decide +kernel
theorem dX7_readBeam_26 : decode cX7_readBeam 26 = .ok (.iconst 0, 1) := by decide +kernel
theorem dX7_readBeam_27 : decode cX7_readBeam 27 = .ok (.iconst 5, 1) := by decide +kernel
theorem dX7_readBeam_28 : decode cX7_readBeam 28 = .ok (.invokevirtual 113, 3) := by decide +kernel
theorem dX7_readBeam_31 : decode cX7_readBeam 31 = .ok (.istore_n 2, 1) := by decide +kernel
theorem dX7_readBeam_32 : decode cX7_readBeam 32 = .ok (.aload_n 0, 1) := by decide +kernel
theorem dX7_readBeam_33 : decode cX7_readBeam 33 = .ok (.getfield 73, 3) := by decide +kernel
theorem dX7_readBeam_36 : decode cX7_readBeam 36 = .ok (.ifCond .ne 24, 3) := by decide +kernel
theorem dX7_readBeam_39 : decode cX7_readBeam 39 = .ok (.aload_n 0, 1) := by decide +kernel
theorem dX7_readBeam_40 : decode cX7_readBeam 40 = .ok (.getfield 82, 3) := by decide +kernel
theorem dX7_readBeam_43 : decode cX7_readBeam 43 = .ok (.iconst 2, 1) := by decide +kernel
theorem dX7_readBeam_44 : decode cX7_readBeam 44 = .ok (.if_icmp .ne 16, 3) := by decide +kernel
theorem dX7_readBeam_47 : decode cX7_readBeam 47 = .ok (.aload_n 0, 1) := by decide +kernel
theorem dX7_readBeam_48 : decode cX7_readBeam 48 = .ok (.getfield 92, 3) := by decide +kernel
theorem dX7_readBeam_51 : decode cX7_readBeam 51 = .ok (.iload_n 2, 1) := by decide +kernel
theorem dX7_readBeam_52 : decode cX7_readBeam 52 = .ok (.if_icmp .ne 8, 3) := by decide +kernel
theorem dX7_readBeam_55 : decode cX7_readBeam 55 = .ok (.aload_n 0, 1) := by decide +kernel
theorem dX7_readBeam_56 : decode cX7_readBeam 56 = .ok (.iconst 4, 1) := by decide +kernel
theorem dX7_readBeam_57 : decode cX7_readBeam 57 = .ok (.invokevirtual 103, 3) := by decide +kernel
theorem dX7_readBeam_60 : decode cX7_readBeam 60 = .ok (.aload_n 0, 1) := by decide +kernel
theorem dX7_readBeam_61 : decode cX7_readBeam 61 = .ok (.getfield 7, 3) := by decide +kernel
theorem dX7_readBeam_64 : decode cX7_readBeam 64 = .ok (.sipush 249, 3) := by decide +kernel
theorem dX7_readBeam_67 : decode cX7_readBeam 67 = .ok (.iload_n 1, 1) := by decide +kernel
theorem dX7_readBeam_68 : decode cX7_readBeam 68 = .ok (.iadd, 1) := by decide +kernel
theorem dX7_readBeam_69 : decode cX7_readBeam 69 = .ok (.iload_n 2, 1) := by decide +kernel
theorem dX7_readBeam_70 : decode cX7_readBeam 70 = .ok (.iastore, 1) := by decide +kernel
theorem dX7_readBeam_71 : decode cX7_readBeam 71 = .ok (.aload_n 0, 1) := by decide +kernel
theorem dX7_readBeam_72 : decode cX7_readBeam 72 = .ok (.getfield 7, 3) := by decide +kernel
theorem dX7_readBeam_75 : decode cX7_readBeam 75 = .ok (.sipush 259, 3) := by decide +kernel
theorem dX7_readBeam_78 : decode cX7_readBeam 78 = .ok (.iload_n 1, 1) := by decide +kernel
theorem dX7_readBeam_79 : decode cX7_readBeam 79 = .ok (.iadd, 1) := by decide +kernel
theorem dX7_readBeam_80 : decode cX7_readBeam 80 = .ok (.aload_n 0, 1) := by decide +kernel
theorem dX7_readBeam_81 : decode cX7_readBeam 81 = .ok (.iconst 0, 1) := by decide +kernel
theorem dX7_readBeam_82 : decode cX7_readBeam 82 = .ok (.iconst 5, 1) := by decide +kernel
theorem dX7_readBeam_83 : decode cX7_readBeam 83 = .ok (.invokevirtual 113, 3) := by decide +kernel
theorem dX7_readBeam_86 : decode cX7_readBeam 86 = .ok (.iastore, 1) := by decide +kernel
theorem dX7_readBeam_87 : decode cX7_readBeam 87 = .ok (.aload_n 0, 1) := by decide +kernel
theorem dX7_readBeam_88 : decode cX7_readBeam 88 = .ok (.getfield 73, 3) := by decide +kernel
theorem dX7_readBeam_91 : decode cX7_readBeam 91 = .ok (.ifCond .ne 26, 3) := by decide +kernel
theorem dX7_readBeam_94 : decode cX7_readBeam 94 = .ok (.aload_n 0, 1) := by decide +kernel
theorem dX7_readBeam_95 : decode cX7_readBeam 95 = .ok (.getfield 82, 3) := by decide +kernel
theorem dX7_readBeam_98 : decode cX7_readBeam 98 = .ok (.iconst 2, 1) := by decide +kernel
theorem dX7_readBeam_99 : decode cX7_readBeam 99 = .ok (.if_icmp .ne 18, 3) := by decide +kernel
theorem dX7_readBeam_102 : decode cX7_readBeam 102 = .ok (.aload_n 0, 1) := by decide +kernel
theorem dX7_readBeam_103 : decode cX7_readBeam 103 = .ok (.getfield 92, 3) := by decide +kernel
theorem dX7_readBeam_106 : decode cX7_readBeam 106 = .ok (.invokestatic 117, 3) := by decide +kernel
theorem dX7_readBeam_109 : decode cX7_readBeam 109 = .ok (.ifCond .ne 8, 3) := by decide +kernel
theorem dX7_readBeam_112 : decode cX7_readBeam 112 = .ok (.aload_n 0, 1) := by decide +kernel
theorem dX7_readBeam_113 : decode cX7_readBeam 113 = .ok (.iconst 3, 1) := by decide +kernel
theorem dX7_readBeam_114 : decode cX7_readBeam 114 = .ok (.invokevirtual 103, 3) := by decide +kernel
theorem dX7_readBeam_117 : decode cX7_readBeam 117 = .ok (.aload_n 0, 1) := by decide +kernel
theorem dX7_readBeam_118 : decode cX7_readBeam 118 = .ok (.getfield 7, 3) := by decide +kernel
theorem dX7_readBeam_121 : decode cX7_readBeam 121 = .ok (.sipush 269, 3) := by decide +kernel
theorem dX7_readBeam_124 : decode cX7_readBeam 124 = .ok (.iload_n 1, 1) := by decide +kernel
theorem dX7_readBeam_125 : decode cX7_readBeam 125 = .ok (.iadd, 1) := by decide +kernel
theorem dX7_readBeam_126 : decode cX7_readBeam 126 = .ok (.aload_n 0, 1) := by decide +kernel
theorem dX7_readBeam_127 : decode cX7_readBeam 127 = .ok (.iconst 1, 1) := by decide +kernel
theorem dX7_readBeam_128 : decode cX7_readBeam 128 = .ok (.bipush 12, 2) := by decide +kernel
theorem dX7_readBeam_130 : decode cX7_readBeam 130 = .ok (.invokevirtual 113, 3) := by decide +kernel
theorem dX7_readBeam_133 : decode cX7_readBeam 133 = .ok (.iastore, 1) := by decide +kernel
theorem dX7_readBeam_134 : decode cX7_readBeam 134 = .ok (.aload_n 0, 1) := by decide +kernel
theorem dX7_readBeam_135 : decode cX7_readBeam 135 = .ok (.getfield 7, 3) := by decide +kernel
theorem dX7_readBeam_138 : decode cX7_readBeam 138 = .ok (.sipush 279, 3) := by decide +kernel
theorem dX7_readBeam_141 : decode cX7_readBeam 141 = .ok (.iload_n 1, 1) := by decide +kernel
theorem dX7_readBeam_142 : decode cX7_readBeam 142 = .ok (.iadd, 1) := by decide +kernel
theorem dX7_readBeam_143 : decode cX7_readBeam 143 = .ok (.aload_n 0, 1) := by decide +kernel
theorem dX7_readBeam_144 : decode cX7_readBeam 144 = .ok (.iconst 1, 1) := by decide +kernel
theorem dX7_readBeam_145 : decode cX7_readBeam 145 = .ok (.bipush 10, 2) := by decide +kernel
theorem dX7_readBeam_147 : decode cX7_readBeam 147 = .ok (.invokevirtual 113, 3) := by decide +kernel
theorem dX7_readBeam_150 : decode cX7_readBeam 150 = .ok (.iastore, 1) := by decide +kernel
theorem dX7_readBeam_151 : decode cX7_readBeam 151 = .ok (.aload_n 0, 1) := by decide +kernel
theorem dX7_readBeam_152 : decode cX7_readBeam 152 = .ok (.getfield 7, 3) := by decide +kernel
theorem dX7_readBeam_155 : decode cX7_readBeam 155 = .ok (.sipush 314, 3) := by decide +kernel
theorem dX7_readBeam_158 : decode cX7_readBeam 158 = .ok (.dup2, 1) := by decide +kernel
theorem dX7_readBeam_159 : decode cX7_readBeam 159 = .ok (.iaload, 1) := by decide +kernel
theorem dX7_readBeam_160 : decode cX7_readBeam 160 = .ok (.iconst 1, 1) := by decide +kernel
theorem dX7_readBeam_161 : decode cX7_readBeam 161 = .ok (.iadd, 1) := by decide +kernel
theorem dX7_readBeam_162 : decode cX7_readBeam 162 = .ok (.iastore, 1) := by decide +kernel
theorem dX7_readBeam_163 : decode cX7_readBeam 163 = .ok (.return_, 1) := by decide +kernel
theorem dX7_readLoad_0 : decode cX7_readLoad 0 = .ok (.aload_n 0, 1) := by decide +kernel
theorem dX7_readLoad_1 : decode cX7_readLoad 1 = .ok (.getfield 7, 3) := by decide +kernel
theorem dX7_readLoad_4 : decode cX7_readLoad 4 = .ok (.sipush 315, 3) := by decide +kernel
theorem dX7_readLoad_7 : decode cX7_readLoad 7 = .ok (.iaload, 1) := by decide +kernel
theorem dX7_readLoad_8 : decode cX7_readLoad 8 = .ok (.istore_n 2, 1) := by decide +kernel
theorem dX7_readLoad_9 : decode cX7_readLoad 9 = .ok (.iload_n 2, 1) := by decide +kernel
theorem dX7_readLoad_10 : decode cX7_readLoad 10 = .ok (.bipush 8, 2) := by decide +kernel
theorem dX7_readLoad_12 : decode cX7_readLoad 12 = .ok (.if_icmp .ne 9, 3) := by decide +kernel
theorem dX7_readLoad_15 : decode cX7_readLoad 15 = .ok (.aload_n 0, 1) := by decide +kernel
theorem dX7_readLoad_16 : decode cX7_readLoad 16 = .ok (.iconst 5, 1) := by decide +kernel
theorem dX7_readLoad_17 : decode cX7_readLoad 17 = .ok (.invokevirtual 103, 3) := by decide +kernel
theorem dX7_readLoad_20 : decode cX7_readLoad 20 = .ok (.return_, 1) := by decide +kernel
theorem dX7_readLoad_21 : decode cX7_readLoad 21 = .ok (.aload_n 0, 1) := by decide +kernel
theorem dX7_readLoad_22 : decode cX7_readLoad 22 = .ok (.invokevirtual 107, 3) := by decide +kernel
theorem dX7_readLoad_25 : decode cX7_readLoad 25 = .ok (.aload_n 0, 1) := by decide +kernel
theorem dX7_readLoad_26 : decode cX7_readLoad 26 = .ok (.getfield 7, 3) := by decide +kernel
theorem dX7_readLoad_29 : decode cX7_readLoad 29 = .ok (.sipush 289, 3) := by decide +kernel
theorem dX7_readLoad_32 : decode cX7_readLoad 32 = .ok (.iload_n 2, 1) := by decide +kernel
theorem dX7_readLoad_33 : decode cX7_readLoad 33 = .ok (.iadd, 1) := by decide +kernel
theorem dX7_readLoad_34 : decode cX7_readLoad 34 = .ok (.aload_n 0, 1) := by decide +kernel
theorem dX7_readLoad_35 : decode cX7_readLoad 35 = .ok (.iconst 0, 1) := by decide +kernel
theorem dX7_readLoad_36 : decode cX7_readLoad 36 = .ok (.bipush 9, 2) := by decide +kernel
theorem dX7_readLoad_38 : decode cX7_readLoad 38 = .ok (.invokevirtual 113, 3) := by decide +kernel
theorem dX7_readLoad_41 : decode cX7_readLoad 41 = .ok (.iastore, 1) := by decide +kernel
theorem dX7_readLoad_42 : decode cX7_readLoad 42 = .ok (.aload_n 0, 1) := by decide +kernel
theorem dX7_readLoad_43 : decode cX7_readLoad 43 = .ok (.getfield 7, 3) := by decide +kernel
theorem dX7_readLoad_46 : decode cX7_readLoad 46 = .ok (.sipush 297, 3) := by decide +kernel
theorem dX7_readLoad_49 : decode cX7_readLoad 49 = .ok (.iload_n 2, 1) := by decide +kernel
theorem dX7_readLoad_50 : decode cX7_readLoad 50 = .ok (.iadd, 1) := by decide +kernel
theorem dX7_readLoad_51 : decode cX7_readLoad 51 = .ok (.aload_n 0, 1) := by decide +kernel
theorem dX7_readLoad_52 : decode cX7_readLoad 52 = .ok (.iconst 1, 1) := by decide +kernel
theorem dX7_readLoad_53 : decode cX7_readLoad 53 = .ok (.iload_n 1, 1) := by decide +kernel
theorem dX7_readLoad_54 : decode cX7_readLoad 54 = .ok (.ifCond .eq 9, 3) := by decide +kernel
theorem dX7_readLoad_57 : decode cX7_readLoad 57 = .ok (.sipush 999, 3) := by decide +kernel
theorem dX7_readLoad_60 : decode cX7_readLoad 60 = .ok (.goto 5, 3) := by decide +kernel
theorem dX7_readLoad_63 : decode cX7_readLoad 63 = .ok (.bipush 99, 2) := by decide +kernel
theorem dX7_readLoad_65 : decode cX7_readLoad 65 = .ok (.invokevirtual 113, 3) := by decide +kernel
theorem dX7_readLoad_68 : decode cX7_readLoad 68 = .ok (.iastore, 1) := by decide +kernel
theorem dX7_readLoad_69 : decode cX7_readLoad 69 = .ok (.aload_n 0, 1) := by decide +kernel
theorem dX7_readLoad_70 : decode cX7_readLoad 70 = .ok (.getfield 7, 3) := by decide +kernel
theorem dX7_readLoad_73 : decode cX7_readLoad 73 = .ok (.sipush 305, 3) := by decide +kernel
theorem dX7_readLoad_76 : decode cX7_readLoad 76 = .ok (.iload_n 2, 1) := by decide +kernel
theorem dX7_readLoad_77 : decode cX7_readLoad 77 = .ok (.iadd, 1) := by decide +kernel
theorem dX7_readLoad_78 : decode cX7_readLoad 78 = .ok (.iload_n 1, 1) := by decide +kernel
theorem dX7_readLoad_79 : decode cX7_readLoad 79 = .ok (.ifCond .eq 13, 3) := by decide +kernel
theorem dX7_readLoad_82 : decode cX7_readLoad 82 = .ok (.aload_n 0, 1) := by decide +kernel
theorem dX7_readLoad_83 : decode cX7_readLoad 83 = .ok (.iconst 1, 1) := by decide +kernel
theorem dX7_readLoad_84 : decode cX7_readLoad 84 = .ok (.bipush 11, 2) := by decide +kernel
theorem dX7_readLoad_86 : decode cX7_readLoad 86 = .ok (.invokevirtual 113, 3) := by decide +kernel
theorem dX7_readLoad_89 : decode cX7_readLoad 89 = .ok (.goto 4, 3) := by decide +kernel
theorem dX7_readLoad_92 : decode cX7_readLoad 92 = .ok (.iconst 0, 1) := by decide +kernel
theorem dX7_readLoad_93 : decode cX7_readLoad 93 = .ok (.iastore, 1) := by decide +kernel
theorem dX7_readLoad_94 : decode cX7_readLoad 94 = .ok (.aload_n 0, 1) := by decide +kernel
theorem dX7_readLoad_95 : decode cX7_readLoad 95 = .ok (.getfield 7, 3) := by decide +kernel
theorem dX7_readLoad_98 : decode cX7_readLoad 98 = .ok (.sipush 315, 3) := by decide +kernel
theorem dX7_readLoad_101 : decode cX7_readLoad 101 = .ok (.dup2, 1) := by decide +kernel
theorem dX7_readLoad_102 : decode cX7_readLoad 102 = .ok (.iaload, 1) := by decide +kernel
theorem dX7_readLoad_103 : decode cX7_readLoad 103 = .ok (.iconst 1, 1) := by decide +kernel
theorem dX7_readLoad_104 : decode cX7_readLoad 104 = .ok (.iadd, 1) := by decide +kernel
theorem dX7_readLoad_105 : decode cX7_readLoad 105 = .ok (.iastore, 1) := by decide +kernel
theorem dX7_readLoad_106 : decode cX7_readLoad 106 = .ok (.return_, 1) := by decide +kernel
theorem dX7_readLine_0 : decode cX7_readLine 0 = .ok (.aload_n 0, 1) := by decide +kernel
theorem dX7_readLine_1 : decode cX7_readLine 1 = .ok (.invokevirtual 121, 3) := by decide +kernel
theorem dX7_readLine_4 : decode cX7_readLine 4 = .ok (.istore_n 1, 1) := by decide +kernel
theorem dX7_readLine_5 : decode cX7_readLine 5 = .ok (.iload_n 1, 1) := by decide +kernel
theorem dX7_readLine_6 : decode cX7_readLine 6 = .ok (.bipush (-4), 2) := by decide +kernel
theorem dX7_readLine_8 : decode cX7_readLine 8 = .ok (.if_icmp .ne 11, 3) := by decide +kernel
theorem dX7_readLine_11 : decode cX7_readLine 11 = .ok (.aload_n 0, 1) := by decide +kernel
theorem dX7_readLine_12 : decode cX7_readLine 12 = .ok (.iconst 2, 1) := by decide +kernel
theorem dX7_readLine_13 : decode cX7_readLine 13 = .ok (.invokevirtual 103, 3) := by decide +kernel
theorem dX7_readLine_16 : decode cX7_readLine 16 = .ok (.goto 46, 3) := by decide +kernel
theorem dX7_readLine_19 : decode cX7_readLine 19 = .ok (.iload_n 1, 1) := by decide +kernel
theorem dX7_readLine_20 : decode cX7_readLine 20 = .ok (.ifCond .eq 8, 3) := by decide +kernel
theorem dX7_readLine_23 : decode cX7_readLine 23 = .ok (.iload_n 1, 1) := by decide +kernel
theorem dX7_readLine_24 : decode cX7_readLine 24 = .ok (.iconst 1, 1) := by decide +kernel
theorem dX7_readLine_25 : decode cX7_readLine 25 = .ok (.if_icmp .ne 11, 3) := by decide +kernel
theorem dX7_readLine_28 : decode cX7_readLine 28 = .ok (.aload_n 0, 1) := by decide +kernel
theorem dX7_readLine_29 : decode cX7_readLine 29 = .ok (.iload_n 1, 1) := by decide +kernel
theorem dX7_readLine_30 : decode cX7_readLine 30 = .ok (.invokevirtual 125, 3) := by decide +kernel
theorem dX7_readLine_33 : decode cX7_readLine 33 = .ok (.goto 29, 3) := by decide +kernel
theorem dX7_readLine_36 : decode cX7_readLine 36 = .ok (.iload_n 1, 1) := by decide +kernel
theorem dX7_readLine_37 : decode cX7_readLine 37 = .ok (.iconst 2, 1) := by decide +kernel
theorem dX7_readLine_38 : decode cX7_readLine 38 = .ok (.if_icmp .ne 10, 3) := by decide +kernel
theorem dX7_readLine_41 : decode cX7_readLine 41 = .ok (.aload_n 0, 1) := by decide +kernel
theorem dX7_readLine_42 : decode cX7_readLine 42 = .ok (.invokevirtual 128, 3) := by decide +kernel
theorem dX7_readLine_45 : decode cX7_readLine 45 = .ok (.goto 17, 3) := by decide +kernel
theorem dX7_readLine_48 : decode cX7_readLine 48 = .ok (.aload_n 0, 1) := by decide +kernel
theorem dX7_readLine_49 : decode cX7_readLine 49 = .ok (.iload_n 1, 1) := by decide +kernel
theorem dX7_readLine_50 : decode cX7_readLine 50 = .ok (.iconst 3, 1) := by decide +kernel
theorem dX7_readLine_51 : decode cX7_readLine 51 = .ok (.if_icmp .ne 7, 3) := by decide +kernel
theorem dX7_readLine_54 : decode cX7_readLine 54 = .ok (.iconst 1, 1) := by decide +kernel
theorem dX7_readLine_55 : decode cX7_readLine 55 = .ok (.goto 4, 3) := by decide +kernel
theorem dX7_readLine_58 : decode cX7_readLine 58 = .ok (.iconst 0, 1) := by decide +kernel
theorem dX7_readLine_59 : decode cX7_readLine 59 = .ok (.invokevirtual 131, 3) := by decide +kernel
theorem dX7_readLine_62 : decode cX7_readLine 62 = .ok (.aload_n 0, 1) := by decide +kernel
theorem dX7_readLine_63 : decode cX7_readLine 63 = .ok (.getfield 73, 3) := by decide +kernel
theorem dX7_readLine_66 : decode cX7_readLine 66 = .ok (.ifCond .ne 16, 3) := by decide +kernel
theorem dX7_readLine_69 : decode cX7_readLine 69 = .ok (.aload_n 0, 1) := by decide +kernel
theorem dX7_readLine_70 : decode cX7_readLine 70 = .ok (.getfield 82, 3) := by decide +kernel
theorem dX7_readLine_73 : decode cX7_readLine 73 = .ok (.iconst 3, 1) := by decide +kernel
theorem dX7_readLine_74 : decode cX7_readLine 74 = .ok (.if_icmp .eq 8, 3) := by decide +kernel
theorem dX7_readLine_77 : decode cX7_readLine 77 = .ok (.aload_n 0, 1) := by decide +kernel
theorem dX7_readLine_78 : decode cX7_readLine 78 = .ok (.iconst 2, 1) := by decide +kernel
theorem dX7_readLine_79 : decode cX7_readLine 79 = .ok (.invokevirtual 103, 3) := by decide +kernel
theorem dX7_readLine_82 : decode cX7_readLine 82 = .ok (.aload_n 0, 1) := by decide +kernel
theorem dX7_readLine_83 : decode cX7_readLine 83 = .ok (.invokevirtual 107, 3) := by decide +kernel
theorem dX7_readLine_86 : decode cX7_readLine 86 = .ok (.return_, 1) := by decide +kernel
theorem dX7_isWhole_0 : decode cX7_isWhole 0 = .ok (.iconst 1, 1) := by decide +kernel
theorem dX7_isWhole_1 : decode cX7_isWhole 1 = .ok (.istore_n 1, 1) := by decide +kernel
theorem dX7_isWhole_2 : decode cX7_isWhole 2 = .ok (.iconst 0, 1) := by decide +kernel
theorem dX7_isWhole_3 : decode cX7_isWhole 3 = .ok (.istore_n 2, 1) := by decide +kernel
theorem dX7_isWhole_4 : decode cX7_isWhole 4 = .ok (.iload_n 2, 1) := by decide +kernel
theorem dX7_isWhole_5 : decode cX7_isWhole 5 = .ok (.aload_n 0, 1) := by decide +kernel
theorem dX7_isWhole_6 : decode cX7_isWhole 6 = .ok (.getfield 7, 3) := by decide +kernel
theorem dX7_isWhole_9 : decode cX7_isWhole 9 = .ok (.sipush 314, 3) := by decide +kernel
theorem dX7_isWhole_12 : decode cX7_isWhole 12 = .ok (.iaload, 1) := by decide +kernel
theorem dX7_isWhole_13 : decode cX7_isWhole 13 = .ok (.if_icmp .ge 61, 3) := by decide +kernel
theorem dX7_isWhole_16 : decode cX7_isWhole 16 = .ok (.iload_n 1, 1) := by decide +kernel
theorem dX7_isWhole_17 : decode cX7_isWhole 17 = .ok (.ifCond .eq 49, 3) := by decide +kernel
theorem dX7_isWhole_20 : decode cX7_isWhole 20 = .ok (.aload_n 0, 1) := by decide +kernel
theorem dX7_isWhole_21 : decode cX7_isWhole 21 = .ok (.getfield 7, 3) := by decide +kernel
theorem dX7_isWhole_24 : decode cX7_isWhole 24 = .ok (.sipush 249, 3) := by decide +kernel
theorem dX7_isWhole_27 : decode cX7_isWhole 27 = .ok (.iload_n 2, 1) := by decide +kernel
theorem dX7_isWhole_28 : decode cX7_isWhole 28 = .ok (.iadd, 1) := by decide +kernel
theorem dX7_isWhole_29 : decode cX7_isWhole 29 = .ok (.iaload, 1) := by decide +kernel
theorem dX7_isWhole_30 : decode cX7_isWhole 30 = .ok (.aload_n 0, 1) := by decide +kernel
theorem dX7_isWhole_31 : decode cX7_isWhole 31 = .ok (.getfield 7, 3) := by decide +kernel
theorem dX7_isWhole_34 : decode cX7_isWhole 34 = .ok (.sipush 313, 3) := by decide +kernel
theorem dX7_isWhole_37 : decode cX7_isWhole 37 = .ok (.iaload, 1) := by decide +kernel
theorem dX7_isWhole_38 : decode cX7_isWhole 38 = .ok (.if_icmp .ge 28, 3) := by decide +kernel
theorem dX7_isWhole_41 : decode cX7_isWhole 41 = .ok (.aload_n 0, 1) := by decide +kernel
theorem dX7_isWhole_42 : decode cX7_isWhole 42 = .ok (.getfield 7, 3) := by decide +kernel
theorem dX7_isWhole_45 : decode cX7_isWhole 45 = .ok (.sipush 259, 3) := by decide +kernel
theorem dX7_isWhole_48 : decode cX7_isWhole 48 = .ok (.iload_n 2, 1) := by decide +kernel
theorem dX7_isWhole_49 : decode cX7_isWhole 49 = .ok (.iadd, 1) := by decide +kernel
theorem dX7_isWhole_50 : decode cX7_isWhole 50 = .ok (.iaload, 1) := by decide +kernel
theorem dX7_isWhole_51 : decode cX7_isWhole 51 = .ok (.aload_n 0, 1) := by decide +kernel
theorem dX7_isWhole_52 : decode cX7_isWhole 52 = .ok (.getfield 7, 3) := by decide +kernel
theorem dX7_isWhole_55 : decode cX7_isWhole 55 = .ok (.sipush 313, 3) := by decide +kernel
theorem dX7_isWhole_58 : decode cX7_isWhole 58 = .ok (.iaload, 1) := by decide +kernel
theorem dX7_isWhole_59 : decode cX7_isWhole 59 = .ok (.if_icmp .ge 7, 3) := by decide +kernel
theorem dX7_isWhole_62 : decode cX7_isWhole 62 = .ok (.iconst 1, 1) := by decide +kernel
theorem dX7_isWhole_63 : decode cX7_isWhole 63 = .ok (.goto 4, 3) := by decide +kernel
theorem dX7_isWhole_66 : decode cX7_isWhole 66 = .ok (.iconst 0, 1) := by decide +kernel
theorem dX7_isWhole_67 : decode cX7_isWhole 67 = .ok (.istore_n 1, 1) := by decide +kernel
theorem dX7_isWhole_68 : decode cX7_isWhole 68 = .ok (.iinc 2 1, 3) := by decide +kernel
theorem dX7_isWhole_71 : decode cX7_isWhole 71 = .ok (.goto (-67), 3) := by decide +kernel
theorem dX7_isWhole_74 : decode cX7_isWhole 74 = .ok (.iconst 0, 1) := by decide +kernel
theorem dX7_isWhole_75 : decode cX7_isWhole 75 = .ok (.istore_n 2, 1) := by decide +kernel
theorem dX7_isWhole_76 : decode cX7_isWhole 76 = .ok (.iload_n 2, 1) := by decide +kernel
theorem dX7_isWhole_77 : decode cX7_isWhole 77 = .ok (.aload_n 0, 1) := by decide +kernel
theorem dX7_isWhole_78 : decode cX7_isWhole 78 = .ok (.getfield 7, 3) := by decide +kernel
theorem dX7_isWhole_81 : decode cX7_isWhole 81 = .ok (.sipush 315, 3) := by decide +kernel
theorem dX7_isWhole_84 : decode cX7_isWhole 84 = .ok (.iaload, 1) := by decide +kernel
theorem dX7_isWhole_85 : decode cX7_isWhole 85 = .ok (.if_icmp .ge 65, 3) := by decide +kernel
theorem dX7_isWhole_88 : decode cX7_isWhole 88 = .ok (.aload_n 0, 1) := by decide +kernel
theorem dX7_isWhole_89 : decode cX7_isWhole 89 = .ok (.getfield 7, 3) := by decide +kernel
theorem dX7_isWhole_92 : decode cX7_isWhole 92 = .ok (.sipush 289, 3) := by decide +kernel
theorem dX7_isWhole_95 : decode cX7_isWhole 95 = .ok (.iload_n 2, 1) := by decide +kernel
theorem dX7_isWhole_96 : decode cX7_isWhole 96 = .ok (.iadd, 1) := by decide +kernel
theorem dX7_isWhole_97 : decode cX7_isWhole 97 = .ok (.iaload, 1) := by decide +kernel
theorem dX7_isWhole_98 : decode cX7_isWhole 98 = .ok (.istore_n 3, 1) := by decide +kernel
theorem dX7_isWhole_99 : decode cX7_isWhole 99 = .ok (.iload_n 1, 1) := by decide +kernel
theorem dX7_isWhole_100 : decode cX7_isWhole 100 = .ok (.ifCond .eq 42, 3) := by decide +kernel
theorem dX7_isWhole_103 : decode cX7_isWhole 103 = .ok (.iload_n 3, 1) := by decide +kernel
theorem dX7_isWhole_104 : decode cX7_isWhole 104 = .ok (.aload_n 0, 1) := by decide +kernel
theorem dX7_isWhole_105 : decode cX7_isWhole 105 = .ok (.getfield 7, 3) := by decide +kernel
theorem dX7_isWhole_108 : decode cX7_isWhole 108 = .ok (.sipush 314, 3) := by decide +kernel
theorem dX7_isWhole_111 : decode cX7_isWhole 111 = .ok (.iaload, 1) := by decide +kernel
theorem dX7_isWhole_112 : decode cX7_isWhole 112 = .ok (.if_icmp .ge 30, 3) := by decide +kernel
theorem dX7_isWhole_115 : decode cX7_isWhole 115 = .ok (.aload_n 0, 1) := by decide +kernel
theorem dX7_isWhole_116 : decode cX7_isWhole 116 = .ok (.getfield 7, 3) := by decide +kernel
theorem dX7_isWhole_119 : decode cX7_isWhole 119 = .ok (.sipush 305, 3) := by decide +kernel
theorem dX7_isWhole_122 : decode cX7_isWhole 122 = .ok (.iload_n 2, 1) := by decide +kernel
theorem dX7_isWhole_123 : decode cX7_isWhole 123 = .ok (.iadd, 1) := by decide +kernel
theorem dX7_isWhole_124 : decode cX7_isWhole 124 = .ok (.iaload, 1) := by decide +kernel
theorem dX7_isWhole_125 : decode cX7_isWhole 125 = .ok (.aload_n 0, 1) := by decide +kernel
theorem dX7_isWhole_126 : decode cX7_isWhole 126 = .ok (.getfield 7, 3) := by decide +kernel
theorem dX7_isWhole_129 : decode cX7_isWhole 129 = .ok (.sipush 269, 3) := by decide +kernel
theorem dX7_isWhole_132 : decode cX7_isWhole 132 = .ok (.iload_n 3, 1) := by decide +kernel
theorem dX7_isWhole_133 : decode cX7_isWhole 133 = .ok (.iadd, 1) := by decide +kernel
theorem dX7_isWhole_134 : decode cX7_isWhole 134 = .ok (.iaload, 1) := by decide +kernel
theorem dX7_isWhole_135 : decode cX7_isWhole 135 = .ok (.if_icmp .ge 7, 3) := by decide +kernel
theorem dX7_isWhole_138 : decode cX7_isWhole 138 = .ok (.iconst 1, 1) := by decide +kernel
theorem dX7_isWhole_139 : decode cX7_isWhole 139 = .ok (.goto 4, 3) := by decide +kernel
theorem dX7_isWhole_142 : decode cX7_isWhole 142 = .ok (.iconst 0, 1) := by decide +kernel
theorem dX7_isWhole_143 : decode cX7_isWhole 143 = .ok (.istore_n 1, 1) := by decide +kernel
theorem dX7_isWhole_144 : decode cX7_isWhole 144 = .ok (.iinc 2 1, 3) := by decide +kernel
theorem dX7_isWhole_147 : decode cX7_isWhole 147 = .ok (.goto (-71), 3) := by decide +kernel
theorem dX7_isWhole_150 : decode cX7_isWhole 150 = .ok (.iload_n 1, 1) := by decide +kernel
theorem dX7_isWhole_151 : decode cX7_isWhole 151 = .ok (.ireturn, 1) := by decide +kernel
theorem dX7_text_0 : decode cX7_text 0 = .ok (.aload_n 0, 1) := by decide +kernel
theorem dX7_text_1 : decode cX7_text 1 = .ok (.iconst 0, 1) := by decide +kernel
theorem dX7_text_2 : decode cX7_text 2 = .ok (.putfield 73, 3) := by decide +kernel
theorem dX7_text_5 : decode cX7_text 5 = .ok (.aload_n 0, 1) := by decide +kernel
theorem dX7_text_6 : decode cX7_text 6 = .ok (.iconst 0, 1) := by decide +kernel
theorem dX7_text_7 : decode cX7_text 7 = .ok (.putfield 85, 3) := by decide +kernel
theorem dX7_text_10 : decode cX7_text 10 = .ok (.iconst 0, 1) := by decide +kernel
theorem dX7_text_11 : decode cX7_text 11 = .ok (.istore_n 1, 1) := by decide +kernel
theorem dX7_text_12 : decode cX7_text 12 = .ok (.iconst 0, 1) := by decide +kernel
theorem dX7_text_13 : decode cX7_text 13 = .ok (.istore_n 2, 1) := by decide +kernel
theorem dX7_text_14 : decode cX7_text 14 = .ok (.iload_n 2, 1) := by decide +kernel
theorem dX7_text_15 : decode cX7_text 15 = .ok (.bipush 79, 2) := by decide +kernel
theorem dX7_text_17 : decode cX7_text 17 = .ok (.if_icmp .ge 20, 3) := by decide +kernel
theorem dX7_text_20 : decode cX7_text 20 = .ok (.aload_n 0, 1) := by decide +kernel
theorem dX7_text_21 : decode cX7_text 21 = .ok (.getfield 7, 3) := by decide +kernel
theorem dX7_text_24 : decode cX7_text 24 = .ok (.sipush 237, 3) := by decide +kernel
theorem dX7_text_27 : decode cX7_text 27 = .ok (.iload_n 2, 1) := by decide +kernel
theorem dX7_text_28 : decode cX7_text 28 = .ok (.iadd, 1) := by decide +kernel
theorem dX7_text_29 : decode cX7_text 29 = .ok (.iconst 0, 1) := by decide +kernel
theorem dX7_text_30 : decode cX7_text 30 = .ok (.iastore, 1) := by decide +kernel
theorem dX7_text_31 : decode cX7_text 31 = .ok (.iinc 2 1, 3) := by decide +kernel
theorem dX7_text_34 : decode cX7_text 34 = .ok (.goto (-20), 3) := by decide +kernel
theorem dX7_text_37 : decode cX7_text 37 = .ok (.aload_n 0, 1) := by decide +kernel
theorem dX7_text_38 : decode cX7_text 38 = .ok (.invokevirtual 107, 3) := by decide +kernel
theorem dX7_text_41 : decode cX7_text 41 = .ok (.aload_n 0, 1) := by decide +kernel
theorem dX7_text_42 : decode cX7_text 42 = .ok (.getfield 73, 3) := by decide +kernel
theorem dX7_text_45 : decode cX7_text 45 = .ok (.ifCond .ne 20, 3) := by decide +kernel
theorem dX7_text_48 : decode cX7_text 48 = .ok (.aload_n 0, 1) := by decide +kernel
theorem dX7_text_49 : decode cX7_text 49 = .ok (.getfield 82, 3) := by decide +kernel
theorem dX7_text_52 : decode cX7_text 52 = .ok (.ifCond .eq 13, 3) := by decide +kernel
theorem dX7_text_55 : decode cX7_text 55 = .ok (.aload_n 0, 1) := by decide +kernel
theorem dX7_text_56 : decode cX7_text 56 = .ok (.invokevirtual 135, 3) := by decide +kernel
theorem dX7_text_59 : decode cX7_text 59 = .ok (.iinc 1 1, 3) := by decide +kernel
theorem dX7_text_62 : decode cX7_text 62 = .ok (.goto (-21), 3) := by decide +kernel
theorem dX7_text_65 : decode cX7_text 65 = .ok (.aload_n 0, 1) := by decide +kernel
theorem dX7_text_66 : decode cX7_text 66 = .ok (.getfield 73, 3) := by decide +kernel
theorem dX7_text_69 : decode cX7_text 69 = .ok (.ifCond .ne 16, 3) := by decide +kernel
theorem dX7_text_72 : decode cX7_text 72 = .ok (.aload_n 0, 1) := by decide +kernel
theorem dX7_text_73 : decode cX7_text 73 = .ok (.invokevirtual 138, 3) := by decide +kernel
theorem dX7_text_76 : decode cX7_text 76 = .ok (.ifCond .ne 9, 3) := by decide +kernel
theorem dX7_text_79 : decode cX7_text 79 = .ok (.aload_n 0, 1) := by decide +kernel
theorem dX7_text_80 : decode cX7_text 80 = .ok (.bipush 6, 2) := by decide +kernel
theorem dX7_text_82 : decode cX7_text 82 = .ok (.invokevirtual 103, 3) := by decide +kernel
theorem dX7_text_85 : decode cX7_text 85 = .ok (.aload_n 0, 1) := by decide +kernel
theorem dX7_text_86 : decode cX7_text 86 = .ok (.iconst 0, 1) := by decide +kernel
theorem dX7_text_87 : decode cX7_text 87 = .ok (.putfield 70, 3) := by decide +kernel
theorem dX7_text_90 : decode cX7_text 90 = .ok (.aload_n 0, 1) := by decide +kernel
theorem dX7_text_91 : decode cX7_text 91 = .ok (.aload_n 0, 1) := by decide +kernel
theorem dX7_text_92 : decode cX7_text 92 = .ok (.getfield 73, 3) := by decide +kernel
theorem dX7_text_95 : decode cX7_text 95 = .ok (.putfield 142, 3) := by decide +kernel
theorem dX7_text_98 : decode cX7_text 98 = .ok (.aload_n 0, 1) := by decide +kernel
theorem dX7_text_99 : decode cX7_text 99 = .ok (.getfield 73, 3) := by decide +kernel
theorem dX7_text_102 : decode cX7_text 102 = .ok (.ifCond .le 11, 3) := by decide +kernel
theorem dX7_text_105 : decode cX7_text 105 = .ok (.bipush (-10), 2) := by decide +kernel
theorem dX7_text_107 : decode cX7_text 107 = .ok (.aload_n 0, 1) := by decide +kernel
theorem dX7_text_108 : decode cX7_text 108 = .ok (.getfield 79, 3) := by decide +kernel
theorem dX7_text_111 : decode cX7_text 111 = .ok (.isub, 1) := by decide +kernel
theorem dX7_text_112 : decode cX7_text 112 = .ok (.ireturn, 1) := by decide +kernel
theorem dX7_text_113 : decode cX7_text 113 = .ok (.aload_n 0, 1) := by decide +kernel
theorem dX7_text_114 : decode cX7_text 114 = .ok (.sipush 237, 3) := by decide +kernel
theorem dX7_text_117 : decode cX7_text 117 = .ok (.iconst 0, 1) := by decide +kernel
theorem dX7_text_118 : decode cX7_text 118 = .ok (.invokevirtual 145, 3) := by decide +kernel
theorem dX7_text_121 : decode cX7_text 121 = .ok (.aload_n 0, 1) := by decide +kernel
theorem dX7_text_122 : decode cX7_text 122 = .ok (.invokevirtual 149, 3) := by decide +kernel
theorem dX7_text_125 : decode cX7_text 125 = .ok (.pop, 1) := by decide +kernel
theorem dX7_text_126 : decode cX7_text 126 = .ok (.aload_n 0, 1) := by decide +kernel
theorem dX7_text_127 : decode cX7_text 127 = .ok (.getfield 51, 3) := by decide +kernel
theorem dX7_text_130 : decode cX7_text 130 = .ok (.iconst 0, 1) := by decide +kernel
theorem dX7_text_131 : decode cX7_text 131 = .ok (.iconst 0, 1) := by decide +kernel
theorem dX7_text_132 : decode cX7_text 132 = .ok (.bastore, 1) := by decide +kernel
theorem dX7_text_133 : decode cX7_text 133 = .ok (.aload_n 0, 1) := by decide +kernel
theorem dX7_text_134 : decode cX7_text 134 = .ok (.getfield 51, 3) := by decide +kernel
theorem dX7_text_137 : decode cX7_text 137 = .ok (.iconst 1, 1) := by decide +kernel
theorem dX7_text_138 : decode cX7_text 138 = .ok (.iconst 0, 1) := by decide +kernel
theorem dX7_text_139 : decode cX7_text 139 = .ok (.bastore, 1) := by decide +kernel
theorem dX7_text_140 : decode cX7_text 140 = .ok (.iload_n 1, 1) := by decide +kernel
theorem dX7_text_141 : decode cX7_text 141 = .ok (.ireturn, 1) := by decide +kernel
theorem dX7_fault_0 : decode cX7_fault 0 = .ok (.aload_n 0, 1) := by decide +kernel
theorem dX7_fault_1 : decode cX7_fault 1 = .ok (.getfield 142, 3) := by decide +kernel
theorem dX7_fault_4 : decode cX7_fault 4 = .ok (.ireturn, 1) := by decide +kernel
theorem dX7_copies_0 : decode cX7_copies 0 = .ok (.iconst 0, 1) := by decide +kernel
theorem dX7_copies_1 : decode cX7_copies 1 = .ok (.istore_n 3, 1) := by decide +kernel
theorem dX7_copies_2 : decode cX7_copies 2 = .ok (.iload_n 3, 1) := by decide +kernel
theorem dX7_copies_3 : decode cX7_copies 3 = .ok (.bipush 79, 2) := by decide +kernel
theorem dX7_copies_5 : decode cX7_copies 5 = .ok (.if_icmp .ge 25, 3) := by decide +kernel
theorem dX7_copies_8 : decode cX7_copies 8 = .ok (.aload_n 0, 1) := by decide +kernel
theorem dX7_copies_9 : decode cX7_copies 9 = .ok (.getfield 7, 3) := by decide +kernel
theorem dX7_copies_12 : decode cX7_copies 12 = .ok (.iload_n 2, 1) := by decide +kernel
theorem dX7_copies_13 : decode cX7_copies 13 = .ok (.iload_n 3, 1) := by decide +kernel
theorem dX7_copies_14 : decode cX7_copies 14 = .ok (.iadd, 1) := by decide +kernel
theorem dX7_copies_15 : decode cX7_copies 15 = .ok (.aload_n 0, 1) := by decide +kernel
theorem dX7_copies_16 : decode cX7_copies 16 = .ok (.getfield 7, 3) := by decide +kernel
theorem dX7_copies_19 : decode cX7_copies 19 = .ok (.iload_n 1, 1) := by decide +kernel
theorem dX7_copies_20 : decode cX7_copies 20 = .ok (.iload_n 3, 1) := by decide +kernel
theorem dX7_copies_21 : decode cX7_copies 21 = .ok (.iadd, 1) := by decide +kernel
theorem dX7_copies_22 : decode cX7_copies 22 = .ok (.iaload, 1) := by decide +kernel
theorem dX7_copies_23 : decode cX7_copies 23 = .ok (.iastore, 1) := by decide +kernel
theorem dX7_copies_24 : decode cX7_copies 24 = .ok (.iinc 3 1, 3) := by decide +kernel
theorem dX7_copies_27 : decode cX7_copies 27 = .ok (.goto (-25), 3) := by decide +kernel
theorem dX7_copies_30 : decode cX7_copies 30 = .ok (.return_, 1) := by decide +kernel
theorem dX7_joints_0 : decode cX7_joints 0 = .ok (.aload_n 0, 1) := by decide +kernel
theorem dX7_joints_1 : decode cX7_joints 1 = .ok (.getfield 7, 3) := by decide +kernel
theorem dX7_joints_4 : decode cX7_joints 4 = .ok (.bipush 76, 2) := by decide +kernel
theorem dX7_joints_6 : decode cX7_joints 6 = .ok (.iaload, 1) := by decide +kernel
theorem dX7_joints_7 : decode cX7_joints 7 = .ok (.ireturn, 1) := by decide +kernel
theorem dX7_beams_0 : decode cX7_beams 0 = .ok (.aload_n 0, 1) := by decide +kernel
theorem dX7_beams_1 : decode cX7_beams 1 = .ok (.getfield 7, 3) := by decide +kernel
theorem dX7_beams_4 : decode cX7_beams 4 = .ok (.bipush 77, 2) := by decide +kernel
theorem dX7_beams_6 : decode cX7_beams 6 = .ok (.iaload, 1) := by decide +kernel
theorem dX7_beams_7 : decode cX7_beams 7 = .ok (.ireturn, 1) := by decide +kernel
theorem dX7_loads_0 : decode cX7_loads 0 = .ok (.aload_n 0, 1) := by decide +kernel
theorem dX7_loads_1 : decode cX7_loads 1 = .ok (.getfield 7, 3) := by decide +kernel
theorem dX7_loads_4 : decode cX7_loads 4 = .ok (.bipush 78, 2) := by decide +kernel
theorem dX7_loads_6 : decode cX7_loads 6 = .ok (.iaload, 1) := by decide +kernel
theorem dX7_loads_7 : decode cX7_loads 7 = .ok (.ireturn, 1) := by decide +kernel
theorem dX7_jointOf_0 : decode cX7_jointOf 0 = .ok (.aload_n 0, 1) := by decide +kernel
theorem dX7_jointOf_1 : decode cX7_jointOf 1 = .ok (.getfield 7, 3) := by decide +kernel
theorem dX7_jointOf_4 : decode cX7_jointOf 4 = .ok (.iload_n 1, 1) := by decide +kernel
theorem dX7_jointOf_5 : decode cX7_jointOf 5 = .ok (.iconst 2, 1) := by decide +kernel
theorem dX7_jointOf_6 : decode cX7_jointOf 6 = .ok (.irem, 1) := by decide +kernel
theorem dX7_jointOf_7 : decode cX7_jointOf 7 = .ok (.ifCond .ne 8, 3) := by decide +kernel
theorem dX7_jointOf_10 : decode cX7_jointOf 10 = .ok (.bipush 12, 2) := by decide +kernel
theorem dX7_jointOf_12 : decode cX7_jointOf 12 = .ok (.goto 5, 3) := by decide +kernel
theorem dX7_jointOf_15 : decode cX7_jointOf 15 = .ok (.bipush 22, 2) := by decide +kernel
theorem dX7_jointOf_17 : decode cX7_jointOf 17 = .ok (.iload_n 1, 1) := by decide +kernel
theorem dX7_jointOf_18 : decode cX7_jointOf 18 = .ok (.iconst 2, 1) := by decide +kernel
theorem dX7_jointOf_19 : decode cX7_jointOf 19 = .ok (.idiv, 1) := by decide +kernel
theorem dX7_jointOf_20 : decode cX7_jointOf 20 = .ok (.iadd, 1) := by decide +kernel
theorem dX7_jointOf_21 : decode cX7_jointOf 21 = .ok (.iaload, 1) := by decide +kernel
theorem dX7_jointOf_22 : decode cX7_jointOf 22 = .ok (.ireturn, 1) := by decide +kernel
theorem dX7_otherOf_0 : decode cX7_otherOf 0 = .ok (.iload_n 0, 1) := by decide +kernel
theorem dX7_otherOf_1 : decode cX7_otherOf 1 = .ok (.iconst 2, 1) := by decide +kernel
theorem dX7_otherOf_2 : decode cX7_otherOf 2 = .ok (.irem, 1) := by decide +kernel
theorem dX7_otherOf_3 : decode cX7_otherOf 3 = .ok (.ifCond .ne 9, 3) := by decide +kernel
theorem dX7_otherOf_6 : decode cX7_otherOf 6 = .ok (.iload_n 0, 1) := by decide +kernel
theorem dX7_otherOf_7 : decode cX7_otherOf 7 = .ok (.iconst 1, 1) := by decide +kernel
theorem dX7_otherOf_8 : decode cX7_otherOf 8 = .ok (.iadd, 1) := by decide +kernel
theorem dX7_otherOf_9 : decode cX7_otherOf 9 = .ok (.goto 6, 3) := by decide +kernel
theorem dX7_otherOf_12 : decode cX7_otherOf 12 = .ok (.iload_n 0, 1) := by decide +kernel
theorem dX7_otherOf_13 : decode cX7_otherOf 13 = .ok (.iconst 1, 1) := by decide +kernel
theorem dX7_otherOf_14 : decode cX7_otherOf 14 = .ok (.isub, 1) := by decide +kernel
theorem dX7_otherOf_15 : decode cX7_otherOf 15 = .ok (.ireturn, 1) := by decide +kernel
theorem dX7_stiffOf_0 : decode cX7_stiffOf 0 = .ok (.bipush 12, 2) := by decide +kernel
theorem dX7_stiffOf_2 : decode cX7_stiffOf 2 = .ok (.aload_n 0, 1) := by decide +kernel
theorem dX7_stiffOf_3 : decode cX7_stiffOf 3 = .ok (.getfield 7, 3) := by decide +kernel
theorem dX7_stiffOf_6 : decode cX7_stiffOf 6 = .ok (.bipush 42, 2) := by decide +kernel
theorem dX7_stiffOf_8 : decode cX7_stiffOf 8 = .ok (.iload_n 1, 1) := by decide +kernel
theorem dX7_stiffOf_9 : decode cX7_stiffOf 9 = .ok (.iconst 2, 1) := by decide +kernel
theorem dX7_stiffOf_10 : decode cX7_stiffOf 10 = .ok (.idiv, 1) := by decide +kernel
theorem dX7_stiffOf_11 : decode cX7_stiffOf 11 = .ok (.iadd, 1) := by decide +kernel
theorem dX7_stiffOf_12 : decode cX7_stiffOf 12 = .ok (.iaload, 1) := by decide +kernel
theorem dX7_stiffOf_13 : decode cX7_stiffOf 13 = .ok (.imul, 1) := by decide +kernel
theorem dX7_stiffOf_14 : decode cX7_stiffOf 14 = .ok (.aload_n 0, 1) := by decide +kernel
theorem dX7_stiffOf_15 : decode cX7_stiffOf 15 = .ok (.getfield 7, 3) := by decide +kernel
theorem dX7_stiffOf_18 : decode cX7_stiffOf 18 = .ok (.bipush 32, 2) := by decide +kernel
theorem dX7_stiffOf_20 : decode cX7_stiffOf 20 = .ok (.iload_n 1, 1) := by decide +kernel
theorem dX7_stiffOf_21 : decode cX7_stiffOf 21 = .ok (.iconst 2, 1) := by decide +kernel
theorem dX7_stiffOf_22 : decode cX7_stiffOf 22 = .ok (.idiv, 1) := by decide +kernel
theorem dX7_stiffOf_23 : decode cX7_stiffOf 23 = .ok (.iadd, 1) := by decide +kernel
theorem dX7_stiffOf_24 : decode cX7_stiffOf 24 = .ok (.iaload, 1) := by decide +kernel
theorem dX7_stiffOf_25 : decode cX7_stiffOf 25 = .ok (.idiv, 1) := by decide +kernel
theorem dX7_stiffOf_26 : decode cX7_stiffOf 26 = .ok (.ireturn, 1) := by decide +kernel
theorem dX7_pressed_0 : decode cX7_pressed 0 = .ok (.aload_n 0, 1) := by decide +kernel
theorem dX7_pressed_1 : decode cX7_pressed 1 = .ok (.getfield 7, 3) := by decide +kernel
theorem dX7_pressed_4 : decode cX7_pressed 4 = .ok (.bipush 32, 2) := by decide +kernel
theorem dX7_pressed_6 : decode cX7_pressed 6 = .ok (.aload_n 0, 1) := by decide +kernel
theorem dX7_pressed_7 : decode cX7_pressed 7 = .ok (.getfield 7, 3) := by decide +kernel
theorem dX7_pressed_10 : decode cX7_pressed 10 = .ok (.bipush 52, 2) := by decide +kernel
theorem dX7_pressed_12 : decode cX7_pressed 12 = .ok (.iload_n 1, 1) := by decide +kernel
theorem dX7_pressed_13 : decode cX7_pressed 13 = .ok (.iadd, 1) := by decide +kernel
theorem dX7_pressed_14 : decode cX7_pressed 14 = .ok (.iaload, 1) := by decide +kernel
theorem dX7_pressed_15 : decode cX7_pressed 15 = .ok (.iadd, 1) := by decide +kernel
theorem dX7_pressed_16 : decode cX7_pressed 16 = .ok (.iaload, 1) := by decide +kernel
theorem dX7_pressed_17 : decode cX7_pressed 17 = .ok (.istore_n 3, 1) := by decide +kernel
theorem dX7_pressed_18 : decode cX7_pressed 18 = .ok (.aload_n 0, 1) := by decide +kernel
theorem dX7_pressed_19 : decode cX7_pressed 19 = .ok (.getfield 7, 3) := by decide +kernel
theorem dX7_pressed_22 : decode cX7_pressed 22 = .ok (.bipush 60, 2) := by decide +kernel
theorem dX7_pressed_24 : decode cX7_pressed 24 = .ok (.iload_n 1, 1) := by decide +kernel
theorem dX7_pressed_25 : decode cX7_pressed 25 = .ok (.iadd, 1) := by decide +kernel
theorem dX7_pressed_26 : decode cX7_pressed 26 = .ok (.iaload, 1) := by decide +kernel
theorem dX7_pressed_27 : decode cX7_pressed 27 = .ok (.istore 4, 2) := by decide +kernel
theorem dX7_pressed_29 : decode cX7_pressed 29 = .ok (.aload_n 0, 1) := by decide +kernel
theorem dX7_pressed_30 : decode cX7_pressed 30 = .ok (.getfield 7, 3) := by decide +kernel
theorem dX7_pressed_33 : decode cX7_pressed 33 = .ok (.bipush 68, 2) := by decide +kernel
theorem dX7_pressed_35 : decode cX7_pressed 35 = .ok (.iload_n 1, 1) := by decide +kernel
theorem dX7_pressed_36 : decode cX7_pressed 36 = .ok (.iadd, 1) := by decide +kernel
theorem dX7_pressed_37 : decode cX7_pressed 37 = .ok (.iaload, 1) := by decide +kernel
theorem dX7_pressed_38 : decode cX7_pressed 38 = .ok (.istore 5, 2) := by decide +kernel
theorem dX7_pressed_40 : decode cX7_pressed 40 = .ok (.iload 5, 2) := by decide +kernel
theorem dX7_pressed_42 : decode cX7_pressed 42 = .ok (.ifCond .ne 30, 3) := by decide +kernel
theorem dX7_pressed_45 : decode cX7_pressed 45 = .ok (.bipush 100, 2) := by decide +kernel
theorem dX7_pressed_47 : decode cX7_pressed 47 = .ok (.iload 4, 2) := by decide +kernel
theorem dX7_pressed_49 : decode cX7_pressed 49 = .ok (.imul, 1) := by decide +kernel
theorem dX7_pressed_50 : decode cX7_pressed 50 = .ok (.iload_n 3, 1) := by decide +kernel
theorem dX7_pressed_51 : decode cX7_pressed 51 = .ok (.imul, 1) := by decide +kernel
theorem dX7_pressed_52 : decode cX7_pressed 52 = .ok (.iload_n 3, 1) := by decide +kernel
theorem dX7_pressed_53 : decode cX7_pressed 53 = .ok (.imul, 1) := by decide +kernel
theorem dX7_pressed_54 : decode cX7_pressed 54 = .ok (.bipush 12, 2) := by decide +kernel
theorem dX7_pressed_56 : decode cX7_pressed 56 = .ok (.idiv, 1) := by decide +kernel
theorem dX7_pressed_57 : decode cX7_pressed 57 = .ok (.istore 6, 2) := by decide +kernel
theorem dX7_pressed_59 : decode cX7_pressed 59 = .ok (.iload_n 2, 1) := by decide +kernel
theorem dX7_pressed_60 : decode cX7_pressed 60 = .ok (.ifCond .eq 9, 3) := by decide +kernel
theorem dX7_pressed_63 : decode cX7_pressed 63 = .ok (.iload 6, 2) := by decide +kernel
theorem dX7_pressed_65 : decode cX7_pressed 65 = .ok (.ineg, 1) := by decide +kernel
theorem dX7_pressed_66 : decode cX7_pressed 66 = .ok (.goto 5, 3) := by decide +kernel
theorem dX7_pressed_69 : decode cX7_pressed 69 = .ok (.iload 6, 2) := by decide +kernel
theorem dX7_pressed_71 : decode cX7_pressed 71 = .ok (.ireturn, 1) := by decide +kernel
theorem dX7_pressed_72 : decode cX7_pressed 72 = .ok (.iload_n 3, 1) := by decide +kernel
theorem dX7_pressed_73 : decode cX7_pressed 73 = .ok (.iload 5, 2) := by decide +kernel
theorem dX7_pressed_75 : decode cX7_pressed 75 = .ok (.isub, 1) := by decide +kernel
theorem dX7_pressed_76 : decode cX7_pressed 76 = .ok (.istore 6, 2) := by decide +kernel
theorem dX7_pressed_78 : decode cX7_pressed 78 = .ok (.iload_n 2, 1) := by decide +kernel
theorem dX7_pressed_79 : decode cX7_pressed 79 = .ok (.ifCond .eq 25, 3) := by decide +kernel
theorem dX7_pressed_82 : decode cX7_pressed 82 = .ok (.bipush 100, 2) := by decide +kernel
theorem dX7_pressed_84 : decode cX7_pressed 84 = .ok (.iload 4, 2) := by decide +kernel
theorem dX7_pressed_86 : decode cX7_pressed 86 = .ok (.imul, 1) := by decide +kernel
theorem dX7_pressed_87 : decode cX7_pressed 87 = .ok (.iload 5, 2) := by decide +kernel
theorem dX7_pressed_89 : decode cX7_pressed 89 = .ok (.imul, 1) := by decide +kernel
theorem dX7_pressed_90 : decode cX7_pressed 90 = .ok (.iload 6, 2) := by decide +kernel
theorem dX7_pressed_92 : decode cX7_pressed 92 = .ok (.imul, 1) := by decide +kernel
theorem dX7_pressed_93 : decode cX7_pressed 93 = .ok (.iload 6, 2) := by decide +kernel
theorem dX7_pressed_95 : decode cX7_pressed 95 = .ok (.imul, 1) := by decide +kernel
theorem dX7_pressed_96 : decode cX7_pressed 96 = .ok (.iload_n 3, 1) := by decide +kernel
theorem dX7_pressed_97 : decode cX7_pressed 97 = .ok (.iload_n 3, 1) := by decide +kernel
theorem dX7_pressed_98 : decode cX7_pressed 98 = .ok (.imul, 1) := by decide +kernel
theorem dX7_pressed_99 : decode cX7_pressed 99 = .ok (.idiv, 1) := by decide +kernel
theorem dX7_pressed_100 : decode cX7_pressed 100 = .ok (.ineg, 1) := by decide +kernel
theorem dX7_pressed_101 : decode cX7_pressed 101 = .ok (.goto 21, 3) := by decide +kernel
theorem dX7_pressed_104 : decode cX7_pressed 104 = .ok (.bipush 100, 2) := by decide +kernel
theorem dX7_pressed_106 : decode cX7_pressed 106 = .ok (.iload 4, 2) := by decide +kernel
theorem dX7_pressed_108 : decode cX7_pressed 108 = .ok (.imul, 1) := by decide +kernel
theorem dX7_pressed_109 : decode cX7_pressed 109 = .ok (.iload 5, 2) := by decide +kernel
theorem dX7_pressed_111 : decode cX7_pressed 111 = .ok (.imul, 1) := by decide +kernel
theorem dX7_pressed_112 : decode cX7_pressed 112 = .ok (.iload 5, 2) := by decide +kernel
theorem dX7_pressed_114 : decode cX7_pressed 114 = .ok (.imul, 1) := by decide +kernel
theorem dX7_pressed_115 : decode cX7_pressed 115 = .ok (.iload 6, 2) := by decide +kernel
theorem dX7_pressed_117 : decode cX7_pressed 117 = .ok (.imul, 1) := by decide +kernel
theorem dX7_pressed_118 : decode cX7_pressed 118 = .ok (.iload_n 3, 1) := by decide +kernel
theorem dX7_pressed_119 : decode cX7_pressed 119 = .ok (.iload_n 3, 1) := by decide +kernel
theorem dX7_pressed_120 : decode cX7_pressed 120 = .ok (.imul, 1) := by decide +kernel
theorem dX7_pressed_121 : decode cX7_pressed 121 = .ok (.idiv, 1) := by decide +kernel
theorem dX7_pressed_122 : decode cX7_pressed 122 = .ok (.ireturn, 1) := by decide +kernel
theorem dX7_firstOf_0 : decode cX7_firstOf 0 = .ok (.iconst 0, 1) := by decide +kernel
theorem dX7_firstOf_1 : decode cX7_firstOf 1 = .ok (.istore_n 2, 1) := by decide +kernel
theorem dX7_firstOf_2 : decode cX7_firstOf 2 = .ok (.iconst 0, 1) := by decide +kernel
theorem dX7_firstOf_3 : decode cX7_firstOf 3 = .ok (.istore_n 3, 1) := by decide +kernel
theorem dX7_firstOf_4 : decode cX7_firstOf 4 = .ok (.iload_n 3, 1) := by decide +kernel
theorem dX7_firstOf_5 : decode cX7_firstOf 5 = .ok (.aload_n 0, 1) := by decide +kernel
theorem dX7_firstOf_6 : decode cX7_firstOf 6 = .ok (.invokevirtual 152, 3) := by decide +kernel
theorem dX7_firstOf_9 : decode cX7_firstOf 9 = .ok (.if_icmp .ge 47, 3) := by decide +kernel
theorem dX7_firstOf_12 : decode cX7_firstOf 12 = .ok (.iload_n 2, 1) := by decide +kernel
theorem dX7_firstOf_13 : decode cX7_firstOf 13 = .ok (.aload_n 0, 1) := by decide +kernel
theorem dX7_firstOf_14 : decode cX7_firstOf 14 = .ok (.getfield 7, 3) := by decide +kernel
theorem dX7_firstOf_17 : decode cX7_firstOf 17 = .ok (.bipush 52, 2) := by decide +kernel
theorem dX7_firstOf_19 : decode cX7_firstOf 19 = .ok (.iload_n 3, 1) := by decide +kernel
theorem dX7_firstOf_20 : decode cX7_firstOf 20 = .ok (.iadd, 1) := by decide +kernel
theorem dX7_firstOf_21 : decode cX7_firstOf 21 = .ok (.iaload, 1) := by decide +kernel
theorem dX7_firstOf_22 : decode cX7_firstOf 22 = .ok (.iload_n 1, 1) := by decide +kernel
theorem dX7_firstOf_23 : decode cX7_firstOf 23 = .ok (.iconst 2, 1) := by decide +kernel
theorem dX7_firstOf_24 : decode cX7_firstOf 24 = .ok (.idiv, 1) := by decide +kernel
theorem dX7_firstOf_25 : decode cX7_firstOf 25 = .ok (.if_icmp .ne 22, 3) := by decide +kernel
theorem dX7_firstOf_28 : decode cX7_firstOf 28 = .ok (.aload_n 0, 1) := by decide +kernel
theorem dX7_firstOf_29 : decode cX7_firstOf 29 = .ok (.iload_n 3, 1) := by decide +kernel
theorem dX7_firstOf_30 : decode cX7_firstOf 30 = .ok (.iload_n 1, 1) := by decide +kernel
theorem dX7_firstOf_31 : decode cX7_firstOf 31 = .ok (.iconst 2, 1) := by decide +kernel
theorem dX7_firstOf_32 : decode cX7_firstOf 32 = .ok (.irem, 1) := by decide +kernel
theorem dX7_firstOf_33 : decode cX7_firstOf 33 = .ok (.ifCond .ne 7, 3) := by decide +kernel
theorem dX7_firstOf_36 : decode cX7_firstOf 36 = .ok (.iconst 1, 1) := by decide +kernel
theorem dX7_firstOf_37 : decode cX7_firstOf 37 = .ok (.goto 4, 3) := by decide +kernel
theorem dX7_firstOf_40 : decode cX7_firstOf 40 = .ok (.iconst 0, 1) := by decide +kernel
theorem dX7_firstOf_41 : decode cX7_firstOf 41 = .ok (.invokevirtual 155, 3) := by decide +kernel
theorem dX7_firstOf_44 : decode cX7_firstOf 44 = .ok (.goto 4, 3) := by decide +kernel
theorem dX7_firstOf_47 : decode cX7_firstOf 47 = .ok (.iconst 0, 1) := by decide +kernel
theorem dX7_firstOf_48 : decode cX7_firstOf 48 = .ok (.iadd, 1) := by decide +kernel
theorem dX7_firstOf_49 : decode cX7_firstOf 49 = .ok (.istore_n 2, 1) := by decide +kernel
theorem dX7_firstOf_50 : decode cX7_firstOf 50 = .ok (.iinc 3 1, 3) := by decide +kernel
theorem dX7_firstOf_53 : decode cX7_firstOf 53 = .ok (.goto (-49), 3) := by decide +kernel
theorem dX7_firstOf_56 : decode cX7_firstOf 56 = .ok (.iload_n 2, 1) := by decide +kernel
theorem dX7_firstOf_57 : decode cX7_firstOf 57 = .ok (.ireturn, 1) := by decide +kernel
theorem dX7_begins_0 : decode cX7_begins 0 = .ok (.aload_n 0, 1) := by decide +kernel
theorem dX7_begins_1 : decode cX7_begins 1 = .ok (.getfield 159, 3) := by decide +kernel
theorem dX7_begins_4 : decode cX7_begins 4 = .ok (.istore_n 1, 1) := by decide +kernel
theorem dX7_begins_5 : decode cX7_begins 5 = .ok (.iconst 0, 1) := by decide +kernel
theorem dX7_begins_6 : decode cX7_begins 6 = .ok (.istore_n 2, 1) := by decide +kernel
theorem dX7_begins_7 : decode cX7_begins 7 = .ok (.iload_n 2, 1) := by decide +kernel
theorem dX7_begins_8 : decode cX7_begins 8 = .ok (.bipush 20, 2) := by decide +kernel
theorem dX7_begins_10 : decode cX7_begins 10 = .ok (.if_icmp .ge 34, 3) := by decide +kernel
theorem dX7_begins_13 : decode cX7_begins 13 = .ok (.aload_n 0, 1) := by decide +kernel
theorem dX7_begins_14 : decode cX7_begins 14 = .ok (.getfield 22, 3) := by decide +kernel
theorem dX7_begins_17 : decode cX7_begins 17 = .ok (.iload_n 2, 1) := by decide +kernel
theorem dX7_begins_18 : decode cX7_begins 18 = .ok (.iload_n 2, 1) := by decide +kernel
theorem dX7_begins_19 : decode cX7_begins 19 = .ok (.iconst 2, 1) := by decide +kernel
theorem dX7_begins_20 : decode cX7_begins 20 = .ok (.aload_n 0, 1) := by decide +kernel
theorem dX7_begins_21 : decode cX7_begins 21 = .ok (.invokevirtual 162, 3) := by decide +kernel
theorem dX7_begins_24 : decode cX7_begins 24 = .ok (.imul, 1) := by decide +kernel
theorem dX7_begins_25 : decode cX7_begins 25 = .ok (.if_icmp .ge 11, 3) := by decide +kernel
theorem dX7_begins_28 : decode cX7_begins 28 = .ok (.aload_n 0, 1) := by decide +kernel
theorem dX7_begins_29 : decode cX7_begins 29 = .ok (.iload_n 2, 1) := by decide +kernel
theorem dX7_begins_30 : decode cX7_begins 30 = .ok (.invokevirtual 165, 3) := by decide +kernel
theorem dX7_begins_33 : decode cX7_begins 33 = .ok (.goto 4, 3) := by decide +kernel
theorem dX7_begins_36 : decode cX7_begins 36 = .ok (.iconst 0, 1) := by decide +kernel
theorem dX7_begins_37 : decode cX7_begins 37 = .ok (.iastore, 1) := by decide +kernel
theorem dX7_begins_38 : decode cX7_begins 38 = .ok (.iinc 2 1, 3) := by decide +kernel
theorem dX7_begins_41 : decode cX7_begins 41 = .ok (.goto (-34), 3) := by decide +kernel
theorem dX7_begins_44 : decode cX7_begins 44 = .ok (.iconst 0, 1) := by decide +kernel
theorem dX7_begins_45 : decode cX7_begins 45 = .ok (.istore_n 2, 1) := by decide +kernel
theorem dX7_begins_46 : decode cX7_begins 46 = .ok (.iload_n 2, 1) := by decide +kernel
theorem dX7_begins_47 : decode cX7_begins 47 = .ok (.bipush 6, 2) := by decide +kernel
theorem dX7_begins_49 : decode cX7_begins 49 = .ok (.if_icmp .ge 16, 3) := by decide +kernel
theorem dX7_begins_52 : decode cX7_begins 52 = .ok (.aload_n 0, 1) := by decide +kernel
theorem dX7_begins_53 : decode cX7_begins 53 = .ok (.getfield 25, 3) := by decide +kernel
theorem dX7_begins_56 : decode cX7_begins 56 = .ok (.iload_n 2, 1) := by decide +kernel
theorem dX7_begins_57 : decode cX7_begins 57 = .ok (.iconst 0, 1) := by decide +kernel
theorem dX7_begins_58 : decode cX7_begins 58 = .ok (.iastore, 1) := by decide +kernel
theorem dX7_begins_59 : decode cX7_begins 59 = .ok (.iinc 2 1, 3) := by decide +kernel
theorem dX7_begins_62 : decode cX7_begins 62 = .ok (.goto (-16), 3) := by decide +kernel
theorem dX7_begins_65 : decode cX7_begins 65 = .ok (.aload_n 0, 1) := by decide +kernel
theorem dX7_begins_66 : decode cX7_begins 66 = .ok (.iconst 0, 1) := by decide +kernel
theorem dX7_begins_67 : decode cX7_begins 67 = .ok (.putfield 159, 3) := by decide +kernel
theorem dX7_begins_70 : decode cX7_begins 70 = .ok (.aload_n 0, 1) := by decide +kernel
theorem dX7_begins_71 : decode cX7_begins 71 = .ok (.bipush (-4), 2) := by decide +kernel
theorem dX7_begins_73 : decode cX7_begins 73 = .ok (.putfield 28, 3) := by decide +kernel
theorem dX7_begins_76 : decode cX7_begins 76 = .ok (.iload_n 1, 1) := by decide +kernel
theorem dX7_begins_77 : decode cX7_begins 77 = .ok (.ireturn, 1) := by decide +kernel
theorem dX7_outOf_0 : decode cX7_outOf 0 = .ok (.aload_n 0, 1) := by decide +kernel
theorem dX7_outOf_1 : decode cX7_outOf 1 = .ok (.getfield 7, 3) := by decide +kernel
theorem dX7_outOf_4 : decode cX7_outOf 4 = .ok (.bipush 6, 2) := by decide +kernel
theorem dX7_outOf_6 : decode cX7_outOf 6 = .ok (.iload_n 1, 1) := by decide +kernel
theorem dX7_outOf_7 : decode cX7_outOf 7 = .ok (.iadd, 1) := by decide +kernel
theorem dX7_outOf_8 : decode cX7_outOf 8 = .ok (.iaload, 1) := by decide +kernel
theorem dX7_outOf_9 : decode cX7_outOf 9 = .ok (.istore_n 2, 1) := by decide +kernel
theorem dX7_outOf_10 : decode cX7_outOf 10 = .ok (.iconst 0, 1) := by decide +kernel
theorem dX7_outOf_11 : decode cX7_outOf 11 = .ok (.istore_n 3, 1) := by decide +kernel
theorem dX7_outOf_12 : decode cX7_outOf 12 = .ok (.iload_n 3, 1) := by decide +kernel
theorem dX7_outOf_13 : decode cX7_outOf 13 = .ok (.iconst 2, 1) := by decide +kernel
theorem dX7_outOf_14 : decode cX7_outOf 14 = .ok (.aload_n 0, 1) := by decide +kernel
theorem dX7_outOf_15 : decode cX7_outOf 15 = .ok (.invokevirtual 162, 3) := by decide +kernel
theorem dX7_outOf_18 : decode cX7_outOf 18 = .ok (.imul, 1) := by decide +kernel
theorem dX7_outOf_19 : decode cX7_outOf 19 = .ok (.if_icmp .ge 31, 3) := by decide +kernel
theorem dX7_outOf_22 : decode cX7_outOf 22 = .ok (.iload_n 2, 1) := by decide +kernel
theorem dX7_outOf_23 : decode cX7_outOf 23 = .ok (.aload_n 0, 1) := by decide +kernel
theorem dX7_outOf_24 : decode cX7_outOf 24 = .ok (.iload_n 3, 1) := by decide +kernel
theorem dX7_outOf_25 : decode cX7_outOf 25 = .ok (.invokevirtual 168, 3) := by decide +kernel
theorem dX7_outOf_28 : decode cX7_outOf 28 = .ok (.iload_n 1, 1) := by decide +kernel
theorem dX7_outOf_29 : decode cX7_outOf 29 = .ok (.if_icmp .ne 12, 3) := by decide +kernel
theorem dX7_outOf_32 : decode cX7_outOf 32 = .ok (.aload_n 0, 1) := by decide +kernel
theorem dX7_outOf_33 : decode cX7_outOf 33 = .ok (.getfield 22, 3) := by decide +kernel
theorem dX7_outOf_36 : decode cX7_outOf 36 = .ok (.iload_n 3, 1) := by decide +kernel
theorem dX7_outOf_37 : decode cX7_outOf 37 = .ok (.iaload, 1) := by decide +kernel
theorem dX7_outOf_38 : decode cX7_outOf 38 = .ok (.goto 4, 3) := by decide +kernel
theorem dX7_outOf_41 : decode cX7_outOf 41 = .ok (.iconst 0, 1) := by decide +kernel
theorem dX7_outOf_42 : decode cX7_outOf 42 = .ok (.iadd, 1) := by decide +kernel
theorem dX7_outOf_43 : decode cX7_outOf 43 = .ok (.istore_n 2, 1) := by decide +kernel
theorem dX7_outOf_44 : decode cX7_outOf 44 = .ok (.iinc 3 1, 3) := by decide +kernel
theorem dX7_outOf_47 : decode cX7_outOf 47 = .ok (.goto (-35), 3) := by decide +kernel
theorem dX7_outOf_50 : decode cX7_outOf 50 = .ok (.iload_n 2, 1) := by decide +kernel
theorem dX7_outOf_51 : decode cX7_outOf 51 = .ok (.ireturn, 1) := by decide +kernel
theorem dX7_endsAt_0 : decode cX7_endsAt 0 = .ok (.iconst 0, 1) := by decide +kernel
theorem dX7_endsAt_1 : decode cX7_endsAt 1 = .ok (.istore_n 2, 1) := by decide +kernel
theorem dX7_endsAt_2 : decode cX7_endsAt 2 = .ok (.iconst 0, 1) := by decide +kernel
theorem dX7_endsAt_3 : decode cX7_endsAt 3 = .ok (.istore_n 3, 1) := by decide +kernel
theorem dX7_endsAt_4 : decode cX7_endsAt 4 = .ok (.iload_n 3, 1) := by decide +kernel
theorem dX7_endsAt_5 : decode cX7_endsAt 5 = .ok (.iconst 2, 1) := by decide +kernel
theorem dX7_endsAt_6 : decode cX7_endsAt 6 = .ok (.aload_n 0, 1) := by decide +kernel
theorem dX7_endsAt_7 : decode cX7_endsAt 7 = .ok (.invokevirtual 162, 3) := by decide +kernel
theorem dX7_endsAt_10 : decode cX7_endsAt 10 = .ok (.imul, 1) := by decide +kernel
theorem dX7_endsAt_11 : decode cX7_endsAt 11 = .ok (.if_icmp .ge 26, 3) := by decide +kernel
theorem dX7_endsAt_14 : decode cX7_endsAt 14 = .ok (.iload_n 2, 1) := by decide +kernel
theorem dX7_endsAt_15 : decode cX7_endsAt 15 = .ok (.aload_n 0, 1) := by decide +kernel
theorem dX7_endsAt_16 : decode cX7_endsAt 16 = .ok (.iload_n 3, 1) := by decide +kernel
theorem dX7_endsAt_17 : decode cX7_endsAt 17 = .ok (.invokevirtual 168, 3) := by decide +kernel
theorem dX7_endsAt_20 : decode cX7_endsAt 20 = .ok (.iload_n 1, 1) := by decide +kernel
theorem dX7_endsAt_21 : decode cX7_endsAt 21 = .ok (.if_icmp .ne 7, 3) := by decide +kernel
theorem dX7_endsAt_24 : decode cX7_endsAt 24 = .ok (.iconst 1, 1) := by decide +kernel
theorem dX7_endsAt_25 : decode cX7_endsAt 25 = .ok (.goto 4, 3) := by decide +kernel
theorem dX7_endsAt_28 : decode cX7_endsAt 28 = .ok (.iconst 0, 1) := by decide +kernel
theorem dX7_endsAt_29 : decode cX7_endsAt 29 = .ok (.iadd, 1) := by decide +kernel
theorem dX7_endsAt_30 : decode cX7_endsAt 30 = .ok (.istore_n 2, 1) := by decide +kernel
theorem dX7_endsAt_31 : decode cX7_endsAt 31 = .ok (.iinc 3 1, 3) := by decide +kernel
theorem dX7_endsAt_34 : decode cX7_endsAt 34 = .ok (.goto (-30), 3) := by decide +kernel
theorem dX7_endsAt_37 : decode cX7_endsAt 37 = .ok (.iload_n 2, 1) := by decide +kernel
theorem dX7_endsAt_38 : decode cX7_endsAt 38 = .ok (.ireturn, 1) := by decide +kernel
theorem dX7_stiffAt_0 : decode cX7_stiffAt 0 = .ok (.iconst 0, 1) := by decide +kernel
theorem dX7_stiffAt_1 : decode cX7_stiffAt 1 = .ok (.istore_n 2, 1) := by decide +kernel
theorem dX7_stiffAt_2 : decode cX7_stiffAt 2 = .ok (.iconst 0, 1) := by decide +kernel
theorem dX7_stiffAt_3 : decode cX7_stiffAt 3 = .ok (.istore_n 3, 1) := by decide +kernel
theorem dX7_stiffAt_4 : decode cX7_stiffAt 4 = .ok (.iload_n 3, 1) := by decide +kernel
theorem dX7_stiffAt_5 : decode cX7_stiffAt 5 = .ok (.iconst 2, 1) := by decide +kernel
theorem dX7_stiffAt_6 : decode cX7_stiffAt 6 = .ok (.aload_n 0, 1) := by decide +kernel
theorem dX7_stiffAt_7 : decode cX7_stiffAt 7 = .ok (.invokevirtual 162, 3) := by decide +kernel
theorem dX7_stiffAt_10 : decode cX7_stiffAt 10 = .ok (.imul, 1) := by decide +kernel
theorem dX7_stiffAt_11 : decode cX7_stiffAt 11 = .ok (.if_icmp .ge 30, 3) := by decide +kernel
theorem dX7_stiffAt_14 : decode cX7_stiffAt 14 = .ok (.iload_n 2, 1) := by decide +kernel
theorem dX7_stiffAt_15 : decode cX7_stiffAt 15 = .ok (.aload_n 0, 1) := by decide +kernel
theorem dX7_stiffAt_16 : decode cX7_stiffAt 16 = .ok (.iload_n 3, 1) := by decide +kernel
theorem dX7_stiffAt_17 : decode cX7_stiffAt 17 = .ok (.invokevirtual 168, 3) := by decide +kernel
theorem dX7_stiffAt_20 : decode cX7_stiffAt 20 = .ok (.iload_n 1, 1) := by decide +kernel
theorem dX7_stiffAt_21 : decode cX7_stiffAt 21 = .ok (.if_icmp .ne 11, 3) := by decide +kernel
theorem dX7_stiffAt_24 : decode cX7_stiffAt 24 = .ok (.aload_n 0, 1) := by decide +kernel
theorem dX7_stiffAt_25 : decode cX7_stiffAt 25 = .ok (.iload_n 3, 1) := by decide +kernel
theorem dX7_stiffAt_26 : decode cX7_stiffAt 26 = .ok (.invokevirtual 171, 3) := by decide +kernel
theorem dX7_stiffAt_29 : decode cX7_stiffAt 29 = .ok (.goto 4, 3) := by decide +kernel
theorem dX7_stiffAt_32 : decode cX7_stiffAt 32 = .ok (.iconst 0, 1) := by decide +kernel
theorem dX7_stiffAt_33 : decode cX7_stiffAt 33 = .ok (.iadd, 1) := by decide +kernel
theorem dX7_stiffAt_34 : decode cX7_stiffAt 34 = .ok (.istore_n 2, 1) := by decide +kernel
theorem dX7_stiffAt_35 : decode cX7_stiffAt 35 = .ok (.iinc 3 1, 3) := by decide +kernel
theorem dX7_stiffAt_38 : decode cX7_stiffAt 38 = .ok (.goto (-34), 3) := by decide +kernel
theorem dX7_stiffAt_41 : decode cX7_stiffAt 41 = .ok (.iload_n 2, 1) := by decide +kernel
theorem dX7_stiffAt_42 : decode cX7_stiffAt 42 = .ok (.ireturn, 1) := by decide +kernel
theorem dX7_isTurning_0 : decode cX7_isTurning 0 = .ok (.aload_n 0, 1) := by decide +kernel
theorem dX7_isTurning_1 : decode cX7_isTurning 1 = .ok (.getfield 7, 3) := by decide +kernel
theorem dX7_isTurning_4 : decode cX7_isTurning 4 = .ok (.iload_n 1, 1) := by decide +kernel
theorem dX7_isTurning_5 : decode cX7_isTurning 5 = .ok (.iaload, 1) := by decide +kernel
theorem dX7_isTurning_6 : decode cX7_isTurning 6 = .ok (.ifCond .ne 15, 3) := by decide +kernel
theorem dX7_isTurning_9 : decode cX7_isTurning 9 = .ok (.aload_n 0, 1) := by decide +kernel
theorem dX7_isTurning_10 : decode cX7_isTurning 10 = .ok (.iload_n 1, 1) := by decide +kernel
theorem dX7_isTurning_11 : decode cX7_isTurning 11 = .ok (.invokevirtual 174, 3) := by decide +kernel
theorem dX7_isTurning_14 : decode cX7_isTurning 14 = .ok (.ifCond .le 7, 3) := by decide +kernel
theorem dX7_isTurning_17 : decode cX7_isTurning 17 = .ok (.iconst 1, 1) := by decide +kernel
theorem dX7_isTurning_18 : decode cX7_isTurning 18 = .ok (.goto 4, 3) := by decide +kernel
theorem dX7_isTurning_21 : decode cX7_isTurning 21 = .ok (.iconst 0, 1) := by decide +kernel
theorem dX7_isTurning_22 : decode cX7_isTurning 22 = .ok (.ireturn, 1) := by decide +kernel
theorem dX7_isLoose_0 : decode cX7_isLoose 0 = .ok (.aload_n 0, 1) := by decide +kernel
theorem dX7_isLoose_1 : decode cX7_isLoose 1 = .ok (.iload_n 1, 1) := by decide +kernel
theorem dX7_isLoose_2 : decode cX7_isLoose 2 = .ok (.invokevirtual 177, 3) := by decide +kernel
theorem dX7_isLoose_5 : decode cX7_isLoose 5 = .ok (.ifCond .eq 15, 3) := by decide +kernel
theorem dX7_isLoose_8 : decode cX7_isLoose 8 = .ok (.aload_n 0, 1) := by decide +kernel
theorem dX7_isLoose_9 : decode cX7_isLoose 9 = .ok (.iload_n 1, 1) := by decide +kernel
theorem dX7_isLoose_10 : decode cX7_isLoose 10 = .ok (.invokevirtual 180, 3) := by decide +kernel
theorem dX7_isLoose_13 : decode cX7_isLoose 13 = .ok (.ifCond .eq 7, 3) := by decide +kernel
theorem dX7_isLoose_16 : decode cX7_isLoose 16 = .ok (.iconst 1, 1) := by decide +kernel
theorem dX7_isLoose_17 : decode cX7_isLoose 17 = .ok (.goto 4, 3) := by decide +kernel
theorem dX7_isLoose_20 : decode cX7_isLoose 20 = .ok (.iconst 0, 1) := by decide +kernel
theorem dX7_isLoose_21 : decode cX7_isLoose 21 = .ok (.ireturn, 1) := by decide +kernel
theorem dX7_size_0 : decode cX7_size 0 = .ok (.iload_n 0, 1) := by decide +kernel
theorem dX7_size_1 : decode cX7_size 1 = .ok (.ifCond .ge 8, 3) := by decide +kernel
theorem dX7_size_4 : decode cX7_size 4 = .ok (.iload_n 0, 1) := by decide +kernel
theorem dX7_size_5 : decode cX7_size 5 = .ok (.ineg, 1) := by decide +kernel
theorem dX7_size_6 : decode cX7_size 6 = .ok (.goto 4, 3) := by decide +kernel
theorem dX7_size_9 : decode cX7_size 9 = .ok (.iload_n 0, 1) := by decide +kernel
theorem dX7_size_10 : decode cX7_size 10 = .ok (.ireturn, 1) := by decide +kernel
theorem dX7_looseMany_0 : decode cX7_looseMany 0 = .ok (.iconst 0, 1) := by decide +kernel
theorem dX7_looseMany_1 : decode cX7_looseMany 1 = .ok (.istore_n 1, 1) := by decide +kernel
theorem dX7_looseMany_2 : decode cX7_looseMany 2 = .ok (.iconst 0, 1) := by decide +kernel
theorem dX7_looseMany_3 : decode cX7_looseMany 3 = .ok (.istore_n 2, 1) := by decide +kernel
theorem dX7_looseMany_4 : decode cX7_looseMany 4 = .ok (.iload_n 2, 1) := by decide +kernel
theorem dX7_looseMany_5 : decode cX7_looseMany 5 = .ok (.aload_n 0, 1) := by decide +kernel
theorem dX7_looseMany_6 : decode cX7_looseMany 6 = .ok (.invokevirtual 183, 3) := by decide +kernel
theorem dX7_looseMany_9 : decode cX7_looseMany 9 = .ok (.if_icmp .ge 25, 3) := by decide +kernel
theorem dX7_looseMany_12 : decode cX7_looseMany 12 = .ok (.iload_n 1, 1) := by decide +kernel
theorem dX7_looseMany_13 : decode cX7_looseMany 13 = .ok (.aload_n 0, 1) := by decide +kernel
theorem dX7_looseMany_14 : decode cX7_looseMany 14 = .ok (.iload_n 2, 1) := by decide +kernel
theorem dX7_looseMany_15 : decode cX7_looseMany 15 = .ok (.invokevirtual 186, 3) := by decide +kernel
theorem dX7_looseMany_18 : decode cX7_looseMany 18 = .ok (.ifCond .eq 7, 3) := by decide +kernel
theorem dX7_looseMany_21 : decode cX7_looseMany 21 = .ok (.iconst 1, 1) := by decide +kernel
theorem dX7_looseMany_22 : decode cX7_looseMany 22 = .ok (.goto 4, 3) := by decide +kernel
theorem dX7_looseMany_25 : decode cX7_looseMany 25 = .ok (.iconst 0, 1) := by decide +kernel
theorem dX7_looseMany_26 : decode cX7_looseMany 26 = .ok (.iadd, 1) := by decide +kernel
theorem dX7_looseMany_27 : decode cX7_looseMany 27 = .ok (.istore_n 1, 1) := by decide +kernel
theorem dX7_looseMany_28 : decode cX7_looseMany 28 = .ok (.iinc 2 1, 3) := by decide +kernel
theorem dX7_looseMany_31 : decode cX7_looseMany 31 = .ok (.goto (-27), 3) := by decide +kernel
theorem dX7_looseMany_34 : decode cX7_looseMany 34 = .ok (.iload_n 1, 1) := by decide +kernel
theorem dX7_looseMany_35 : decode cX7_looseMany 35 = .ok (.ireturn, 1) := by decide +kernel
theorem dX7_outAll_0 : decode cX7_outAll 0 = .ok (.iconst 0, 1) := by decide +kernel
theorem dX7_outAll_1 : decode cX7_outAll 1 = .ok (.istore_n 1, 1) := by decide +kernel
theorem dX7_outAll_2 : decode cX7_outAll 2 = .ok (.iconst 0, 1) := by decide +kernel
theorem dX7_outAll_3 : decode cX7_outAll 3 = .ok (.istore_n 2, 1) := by decide +kernel
theorem dX7_outAll_4 : decode cX7_outAll 4 = .ok (.iload_n 2, 1) := by decide +kernel
theorem dX7_outAll_5 : decode cX7_outAll 5 = .ok (.aload_n 0, 1) := by decide +kernel
theorem dX7_outAll_6 : decode cX7_outAll 6 = .ok (.invokevirtual 183, 3) := by decide +kernel
theorem dX7_outAll_9 : decode cX7_outAll 9 = .ok (.if_icmp .ge 32, 3) := by decide +kernel
theorem dX7_outAll_12 : decode cX7_outAll 12 = .ok (.iload_n 1, 1) := by decide +kernel
theorem dX7_outAll_13 : decode cX7_outAll 13 = .ok (.aload_n 0, 1) := by decide +kernel
theorem dX7_outAll_14 : decode cX7_outAll 14 = .ok (.iload_n 2, 1) := by decide +kernel
theorem dX7_outAll_15 : decode cX7_outAll 15 = .ok (.invokevirtual 177, 3) := by decide +kernel
theorem dX7_outAll_18 : decode cX7_outAll 18 = .ok (.ifCond .eq 14, 3) := by decide +kernel
theorem dX7_outAll_21 : decode cX7_outAll 21 = .ok (.aload_n 0, 1) := by decide +kernel
theorem dX7_outAll_22 : decode cX7_outAll 22 = .ok (.iload_n 2, 1) := by decide +kernel
theorem dX7_outAll_23 : decode cX7_outAll 23 = .ok (.invokevirtual 180, 3) := by decide +kernel
theorem dX7_outAll_26 : decode cX7_outAll 26 = .ok (.invokestatic 189, 3) := by decide +kernel
theorem dX7_outAll_29 : decode cX7_outAll 29 = .ok (.goto 4, 3) := by decide +kernel
theorem dX7_outAll_32 : decode cX7_outAll 32 = .ok (.iconst 0, 1) := by decide +kernel
theorem dX7_outAll_33 : decode cX7_outAll 33 = .ok (.iadd, 1) := by decide +kernel
theorem dX7_outAll_34 : decode cX7_outAll 34 = .ok (.istore_n 1, 1) := by decide +kernel
theorem dX7_outAll_35 : decode cX7_outAll 35 = .ok (.iinc 2 1, 3) := by decide +kernel
theorem dX7_outAll_38 : decode cX7_outAll 38 = .ok (.goto (-34), 3) := by decide +kernel
theorem dX7_outAll_41 : decode cX7_outAll 41 = .ok (.iload_n 1, 1) := by decide +kernel
theorem dX7_outAll_42 : decode cX7_outAll 42 = .ok (.ireturn, 1) := by decide +kernel
theorem dX7_rule_0 : decode cX7_rule 0 = .ok (.iload_n 1, 1) := by decide +kernel
theorem dX7_rule_1 : decode cX7_rule 1 = .ok (.tableswitch 88 0 7 #[47, 52, 58, 63, 68, 73, 78, 83], 47) := by decide +kernel
theorem dX7_rule_48 : decode cX7_rule 48 = .ok (.aload_n 0, 1) := by decide +kernel
theorem dX7_rule_49 : decode cX7_rule 49 = .ok (.invokevirtual 183, 3) := by decide +kernel
theorem dX7_rule_52 : decode cX7_rule 52 = .ok (.ireturn, 1) := by decide +kernel
theorem dX7_rule_53 : decode cX7_rule 53 = .ok (.aload_n 0, 1) := by decide +kernel
theorem dX7_rule_54 : decode cX7_rule 54 = .ok (.iconst 0, 1) := by decide +kernel
theorem dX7_rule_55 : decode cX7_rule 55 = .ok (.invokevirtual 110, 3) := by decide +kernel
theorem dX7_rule_58 : decode cX7_rule 58 = .ok (.ireturn, 1) := by decide +kernel
theorem dX7_rule_59 : decode cX7_rule 59 = .ok (.aload_n 0, 1) := by decide +kernel
theorem dX7_rule_60 : decode cX7_rule 60 = .ok (.invokevirtual 162, 3) := by decide +kernel
theorem dX7_rule_63 : decode cX7_rule 63 = .ok (.ireturn, 1) := by decide +kernel
theorem dX7_rule_64 : decode cX7_rule 64 = .ok (.aload_n 0, 1) := by decide +kernel
theorem dX7_rule_65 : decode cX7_rule 65 = .ok (.invokevirtual 152, 3) := by decide +kernel
theorem dX7_rule_68 : decode cX7_rule 68 = .ok (.ireturn, 1) := by decide +kernel
theorem dX7_rule_69 : decode cX7_rule 69 = .ok (.aload_n 0, 1) := by decide +kernel
theorem dX7_rule_70 : decode cX7_rule 70 = .ok (.getfield 159, 3) := by decide +kernel
theorem dX7_rule_73 : decode cX7_rule 73 = .ok (.ireturn, 1) := by decide +kernel
theorem dX7_rule_74 : decode cX7_rule 74 = .ok (.aload_n 0, 1) := by decide +kernel
theorem dX7_rule_75 : decode cX7_rule 75 = .ok (.invokevirtual 192, 3) := by decide +kernel
theorem dX7_rule_78 : decode cX7_rule 78 = .ok (.ireturn, 1) := by decide +kernel
theorem dX7_rule_79 : decode cX7_rule 79 = .ok (.aload_n 0, 1) := by decide +kernel
theorem dX7_rule_80 : decode cX7_rule 80 = .ok (.invokevirtual 195, 3) := by decide +kernel
theorem dX7_rule_83 : decode cX7_rule 83 = .ok (.ireturn, 1) := by decide +kernel
theorem dX7_rule_84 : decode cX7_rule 84 = .ok (.aload_n 0, 1) := by decide +kernel
theorem dX7_rule_85 : decode cX7_rule 85 = .ok (.getfield 28, 3) := by decide +kernel
theorem dX7_rule_88 : decode cX7_rule 88 = .ok (.ireturn, 1) := by decide +kernel
theorem dX7_rule_89 : decode cX7_rule 89 = .ok (.iconst (-1), 1) := by decide +kernel
theorem dX7_rule_90 : decode cX7_rule 90 = .ok (.ireturn, 1) := by decide +kernel
theorem dX7_isJoint_0 : decode cX7_isJoint 0 = .ok (.iload_n 1, 1) := by decide +kernel
theorem dX7_isJoint_1 : decode cX7_isJoint 1 = .ok (.i2l, 1) := by decide +kernel
theorem dX7_isJoint_2 : decode cX7_isJoint 2 = .ok (.lconst 0, 1) := by decide +kernel
theorem dX7_isJoint_3 : decode cX7_isJoint 3 = .ok (.aload_n 0, 1) := by decide +kernel
theorem dX7_isJoint_4 : decode cX7_isJoint 4 = .ok (.invokevirtual 183, 3) := by decide +kernel
theorem dX7_isJoint_7 : decode cX7_isJoint 7 = .ok (.iconst 1, 1) := by decide +kernel
theorem dX7_isJoint_8 : decode cX7_isJoint 8 = .ok (.isub, 1) := by decide +kernel
theorem dX7_isJoint_9 : decode cX7_isJoint 9 = .ok (.i2l, 1) := by decide +kernel
theorem dX7_isJoint_10 : decode cX7_isJoint 10 = .ok (.invokestatic 66, 3) := by decide +kernel
theorem dX7_isJoint_13 : decode cX7_isJoint 13 = .ok (.ireturn, 1) := by decide +kernel
theorem dX7_isBeam_0 : decode cX7_isBeam 0 = .ok (.iload_n 1, 1) := by decide +kernel
theorem dX7_isBeam_1 : decode cX7_isBeam 1 = .ok (.i2l, 1) := by decide +kernel
theorem dX7_isBeam_2 : decode cX7_isBeam 2 = .ok (.lconst 0, 1) := by decide +kernel
theorem dX7_isBeam_3 : decode cX7_isBeam 3 = .ok (.aload_n 0, 1) := by decide +kernel
theorem dX7_isBeam_4 : decode cX7_isBeam 4 = .ok (.invokevirtual 162, 3) := by decide +kernel
theorem dX7_isBeam_7 : decode cX7_isBeam 7 = .ok (.iconst 1, 1) := by decide +kernel
theorem dX7_isBeam_8 : decode cX7_isBeam 8 = .ok (.isub, 1) := by decide +kernel
theorem dX7_isBeam_9 : decode cX7_isBeam 9 = .ok (.i2l, 1) := by decide +kernel
theorem dX7_isBeam_10 : decode cX7_isBeam 10 = .ok (.invokestatic 66, 3) := by decide +kernel
theorem dX7_isBeam_13 : decode cX7_isBeam 13 = .ok (.ireturn, 1) := by decide +kernel
theorem dX7_isEnd_0 : decode cX7_isEnd 0 = .ok (.iload_n 1, 1) := by decide +kernel
theorem dX7_isEnd_1 : decode cX7_isEnd 1 = .ok (.i2l, 1) := by decide +kernel
theorem dX7_isEnd_2 : decode cX7_isEnd 2 = .ok (.lconst 0, 1) := by decide +kernel
theorem dX7_isEnd_3 : decode cX7_isEnd 3 = .ok (.iconst 2, 1) := by decide +kernel
theorem dX7_isEnd_4 : decode cX7_isEnd 4 = .ok (.aload_n 0, 1) := by decide +kernel
theorem dX7_isEnd_5 : decode cX7_isEnd 5 = .ok (.invokevirtual 162, 3) := by decide +kernel
theorem dX7_isEnd_8 : decode cX7_isEnd 8 = .ok (.imul, 1) := by decide +kernel
theorem dX7_isEnd_9 : decode cX7_isEnd 9 = .ok (.iconst 1, 1) := by decide +kernel
theorem dX7_isEnd_10 : decode cX7_isEnd 10 = .ok (.isub, 1) := by decide +kernel
theorem dX7_isEnd_11 : decode cX7_isEnd 11 = .ok (.i2l, 1) := by decide +kernel
theorem dX7_isEnd_12 : decode cX7_isEnd 12 = .ok (.invokestatic 66, 3) := by decide +kernel
theorem dX7_isEnd_15 : decode cX7_isEnd 15 = .ok (.ireturn, 1) := by decide +kernel
theorem dX7_joint_0 : decode cX7_joint 0 = .ok (.aload_n 0, 1) := by decide +kernel
theorem dX7_joint_1 : decode cX7_joint 1 = .ok (.iload_n 1, 1) := by decide +kernel
theorem dX7_joint_2 : decode cX7_joint 2 = .ok (.invokevirtual 198, 3) := by decide +kernel
theorem dX7_joint_5 : decode cX7_joint 5 = .ok (.ifCond .ne 5, 3) := by decide +kernel
theorem dX7_joint_8 : decode cX7_joint 8 = .ok (.iconst (-1), 1) := by decide +kernel
theorem dX7_joint_9 : decode cX7_joint 9 = .ok (.ireturn, 1) := by decide +kernel
theorem dX7_joint_10 : decode cX7_joint 10 = .ok (.iload_n 2, 1) := by decide +kernel
theorem dX7_joint_11 : decode cX7_joint 11 = .ok (.tableswitch 73 0 4 #[33, 40, 46, 52, 59], 33) := by decide +kernel
theorem dX7_joint_44 : decode cX7_joint 44 = .ok (.aload_n 0, 1) := by decide +kernel
theorem dX7_joint_45 : decode cX7_joint 45 = .ok (.getfield 7, 3) := by decide +kernel
theorem dX7_joint_48 : decode cX7_joint 48 = .ok (.iload_n 1, 1) := by decide +kernel
theorem dX7_joint_49 : decode cX7_joint 49 = .ok (.iaload, 1) := by decide +kernel
theorem dX7_joint_50 : decode cX7_joint 50 = .ok (.ireturn, 1) := by decide +kernel
theorem dX7_joint_51 : decode cX7_joint 51 = .ok (.aload_n 0, 1) := by decide +kernel
theorem dX7_joint_52 : decode cX7_joint 52 = .ok (.iload_n 1, 1) := by decide +kernel
theorem dX7_joint_53 : decode cX7_joint 53 = .ok (.invokevirtual 174, 3) := by decide +kernel
theorem dX7_joint_56 : decode cX7_joint 56 = .ok (.ireturn, 1) := by decide +kernel
theorem dX7_joint_57 : decode cX7_joint 57 = .ok (.aload_n 0, 1) := by decide +kernel
theorem dX7_joint_58 : decode cX7_joint 58 = .ok (.iload_n 1, 1) := by decide +kernel
theorem dX7_joint_59 : decode cX7_joint 59 = .ok (.invokevirtual 201, 3) := by decide +kernel
theorem dX7_joint_62 : decode cX7_joint 62 = .ok (.ireturn, 1) := by decide +kernel
theorem dX7_joint_63 : decode cX7_joint 63 = .ok (.aload_n 0, 1) := by decide +kernel
theorem dX7_joint_64 : decode cX7_joint 64 = .ok (.getfield 25, 3) := by decide +kernel
theorem dX7_joint_67 : decode cX7_joint 67 = .ok (.iload_n 1, 1) := by decide +kernel
theorem dX7_joint_68 : decode cX7_joint 68 = .ok (.iaload, 1) := by decide +kernel
theorem dX7_joint_69 : decode cX7_joint 69 = .ok (.ireturn, 1) := by decide +kernel
theorem dX7_joint_70 : decode cX7_joint 70 = .ok (.aload_n 0, 1) := by decide +kernel
theorem dX7_joint_71 : decode cX7_joint 71 = .ok (.iload_n 1, 1) := by decide +kernel
theorem dX7_joint_72 : decode cX7_joint 72 = .ok (.invokevirtual 186, 3) := by decide +kernel
theorem dX7_joint_75 : decode cX7_joint 75 = .ok (.ifCond .eq 7, 3) := by decide +kernel
theorem dX7_joint_78 : decode cX7_joint 78 = .ok (.iconst 1, 1) := by decide +kernel
theorem dX7_joint_79 : decode cX7_joint 79 = .ok (.goto 4, 3) := by decide +kernel
theorem dX7_joint_82 : decode cX7_joint 82 = .ok (.iconst 0, 1) := by decide +kernel
theorem dX7_joint_83 : decode cX7_joint 83 = .ok (.ireturn, 1) := by decide +kernel
theorem dX7_joint_84 : decode cX7_joint 84 = .ok (.iconst (-1), 1) := by decide +kernel
theorem dX7_joint_85 : decode cX7_joint 85 = .ok (.ireturn, 1) := by decide +kernel
theorem dX7_out_0 : decode cX7_out 0 = .ok (.aload_n 0, 1) := by decide +kernel
theorem dX7_out_1 : decode cX7_out 1 = .ok (.iload_n 1, 1) := by decide +kernel
theorem dX7_out_2 : decode cX7_out 2 = .ok (.invokevirtual 198, 3) := by decide +kernel
theorem dX7_out_5 : decode cX7_out 5 = .ok (.ifCond .eq 13, 3) := by decide +kernel
theorem dX7_out_8 : decode cX7_out 8 = .ok (.iload_n 2, 1) := by decide +kernel
theorem dX7_out_9 : decode cX7_out 9 = .ok (.i2l, 1) := by decide +kernel
theorem dX7_out_10 : decode cX7_out 10 = .ok (.lconst 0, 1) := by decide +kernel
theorem dX7_out_11 : decode cX7_out 11 = .ok (.lconst 1, 1) := by decide +kernel
theorem dX7_out_12 : decode cX7_out 12 = .ok (.invokestatic 66, 3) := by decide +kernel
theorem dX7_out_15 : decode cX7_out 15 = .ok (.ifCond .ne 6, 3) := by decide +kernel
theorem dX7_out_18 : decode cX7_out 18 = .ok (.ldc 204, 2) := by decide +kernel
theorem dX7_out_20 : decode cX7_out 20 = .ok (.ireturn, 1) := by decide +kernel
theorem dX7_out_21 : decode cX7_out 21 = .ok (.iload_n 2, 1) := by decide +kernel
theorem dX7_out_22 : decode cX7_out 22 = .ok (.ifCond .ne 15, 3) := by decide +kernel
theorem dX7_out_25 : decode cX7_out 25 = .ok (.aload_n 0, 1) := by decide +kernel
theorem dX7_out_26 : decode cX7_out 26 = .ok (.getfield 7, 3) := by decide +kernel
theorem dX7_out_29 : decode cX7_out 29 = .ok (.bipush 6, 2) := by decide +kernel
theorem dX7_out_31 : decode cX7_out 31 = .ok (.iload_n 1, 1) := by decide +kernel
theorem dX7_out_32 : decode cX7_out 32 = .ok (.iadd, 1) := by decide +kernel
theorem dX7_out_33 : decode cX7_out 33 = .ok (.iaload, 1) := by decide +kernel
theorem dX7_out_34 : decode cX7_out 34 = .ok (.goto 8, 3) := by decide +kernel
theorem dX7_out_37 : decode cX7_out 37 = .ok (.aload_n 0, 1) := by decide +kernel
theorem dX7_out_38 : decode cX7_out 38 = .ok (.iload_n 1, 1) := by decide +kernel
theorem dX7_out_39 : decode cX7_out 39 = .ok (.invokevirtual 180, 3) := by decide +kernel
theorem dX7_out_42 : decode cX7_out 42 = .ok (.ireturn, 1) := by decide +kernel
theorem dX7_at_0 : decode cX7_at 0 = .ok (.aload_n 0, 1) := by decide +kernel
theorem dX7_at_1 : decode cX7_at 1 = .ok (.iload_n 1, 1) := by decide +kernel
theorem dX7_at_2 : decode cX7_at 2 = .ok (.invokevirtual 198, 3) := by decide +kernel
theorem dX7_at_5 : decode cX7_at 5 = .ok (.ifCond .eq 7, 3) := by decide +kernel
theorem dX7_at_8 : decode cX7_at 8 = .ok (.iload_n 2, 1) := by decide +kernel
theorem dX7_at_9 : decode cX7_at 9 = .ok (.ifCond .ge 5, 3) := by decide +kernel
theorem dX7_at_12 : decode cX7_at 12 = .ok (.iconst (-1), 1) := by decide +kernel
theorem dX7_at_13 : decode cX7_at 13 = .ok (.ireturn, 1) := by decide +kernel
theorem dX7_at_14 : decode cX7_at 14 = .ok (.iload_n 2, 1) := by decide +kernel
theorem dX7_at_15 : decode cX7_at 15 = .ok (.istore_n 3, 1) := by decide +kernel
theorem dX7_at_16 : decode cX7_at 16 = .ok (.iconst 0, 1) := by decide +kernel
theorem dX7_at_17 : decode cX7_at 17 = .ok (.istore 4, 2) := by decide +kernel
theorem dX7_at_19 : decode cX7_at 19 = .ok (.iload 4, 2) := by decide +kernel
theorem dX7_at_21 : decode cX7_at 21 = .ok (.iconst 2, 1) := by decide +kernel
theorem dX7_at_22 : decode cX7_at 22 = .ok (.aload_n 0, 1) := by decide +kernel
theorem dX7_at_23 : decode cX7_at 23 = .ok (.invokevirtual 162, 3) := by decide +kernel
theorem dX7_at_26 : decode cX7_at 26 = .ok (.imul, 1) := by decide +kernel
theorem dX7_at_27 : decode cX7_at 27 = .ok (.if_icmp .ge 29, 3) := by decide +kernel
theorem dX7_at_30 : decode cX7_at 30 = .ok (.aload_n 0, 1) := by decide +kernel
theorem dX7_at_31 : decode cX7_at 31 = .ok (.iload 4, 2) := by decide +kernel
theorem dX7_at_33 : decode cX7_at 33 = .ok (.invokevirtual 168, 3) := by decide +kernel
theorem dX7_at_36 : decode cX7_at 36 = .ok (.iload_n 1, 1) := by decide +kernel
theorem dX7_at_37 : decode cX7_at 37 = .ok (.if_icmp .ne 13, 3) := by decide +kernel
theorem dX7_at_40 : decode cX7_at 40 = .ok (.iload_n 3, 1) := by decide +kernel
theorem dX7_at_41 : decode cX7_at 41 = .ok (.ifCond .ne 6, 3) := by decide +kernel
theorem dX7_at_44 : decode cX7_at 44 = .ok (.iload 4, 2) := by decide +kernel
theorem dX7_at_46 : decode cX7_at 46 = .ok (.ireturn, 1) := by decide +kernel
theorem dX7_at_47 : decode cX7_at 47 = .ok (.iinc 3 (-1), 3) := by decide +kernel
theorem dX7_at_50 : decode cX7_at 50 = .ok (.iinc 4 1, 3) := by decide +kernel
theorem dX7_at_53 : decode cX7_at 53 = .ok (.goto (-34), 3) := by decide +kernel
theorem dX7_at_56 : decode cX7_at 56 = .ok (.bipush (-4), 2) := by decide +kernel
theorem dX7_at_58 : decode cX7_at 58 = .ok (.ireturn, 1) := by decide +kernel
theorem dX7_loadsOn_0 : decode cX7_loadsOn 0 = .ok (.iconst 0, 1) := by decide +kernel
theorem dX7_loadsOn_1 : decode cX7_loadsOn 1 = .ok (.istore_n 2, 1) := by decide +kernel
theorem dX7_loadsOn_2 : decode cX7_loadsOn 2 = .ok (.iconst 0, 1) := by decide +kernel
theorem dX7_loadsOn_3 : decode cX7_loadsOn 3 = .ok (.istore_n 3, 1) := by decide +kernel
theorem dX7_loadsOn_4 : decode cX7_loadsOn 4 = .ok (.iload_n 3, 1) := by decide +kernel
theorem dX7_loadsOn_5 : decode cX7_loadsOn 5 = .ok (.aload_n 0, 1) := by decide +kernel
theorem dX7_loadsOn_6 : decode cX7_loadsOn 6 = .ok (.invokevirtual 152, 3) := by decide +kernel
theorem dX7_loadsOn_9 : decode cX7_loadsOn 9 = .ok (.if_icmp .ge 30, 3) := by decide +kernel
theorem dX7_loadsOn_12 : decode cX7_loadsOn 12 = .ok (.iload_n 2, 1) := by decide +kernel
theorem dX7_loadsOn_13 : decode cX7_loadsOn 13 = .ok (.aload_n 0, 1) := by decide +kernel
theorem dX7_loadsOn_14 : decode cX7_loadsOn 14 = .ok (.getfield 7, 3) := by decide +kernel
theorem dX7_loadsOn_17 : decode cX7_loadsOn 17 = .ok (.bipush 52, 2) := by decide +kernel
theorem dX7_loadsOn_19 : decode cX7_loadsOn 19 = .ok (.iload_n 3, 1) := by decide +kernel
theorem dX7_loadsOn_20 : decode cX7_loadsOn 20 = .ok (.iadd, 1) := by decide +kernel
theorem dX7_loadsOn_21 : decode cX7_loadsOn 21 = .ok (.iaload, 1) := by decide +kernel
theorem dX7_loadsOn_22 : decode cX7_loadsOn 22 = .ok (.iload_n 1, 1) := by decide +kernel
theorem dX7_loadsOn_23 : decode cX7_loadsOn 23 = .ok (.if_icmp .ne 7, 3) := by decide +kernel
theorem dX7_loadsOn_26 : decode cX7_loadsOn 26 = .ok (.iconst 1, 1) := by decide +kernel
theorem dX7_loadsOn_27 : decode cX7_loadsOn 27 = .ok (.goto 4, 3) := by decide +kernel
theorem dX7_loadsOn_30 : decode cX7_loadsOn 30 = .ok (.iconst 0, 1) := by decide +kernel
theorem dX7_loadsOn_31 : decode cX7_loadsOn 31 = .ok (.iadd, 1) := by decide +kernel
theorem dX7_loadsOn_32 : decode cX7_loadsOn 32 = .ok (.istore_n 2, 1) := by decide +kernel
theorem dX7_loadsOn_33 : decode cX7_loadsOn 33 = .ok (.iinc 3 1, 3) := by decide +kernel
theorem dX7_loadsOn_36 : decode cX7_loadsOn 36 = .ok (.goto (-32), 3) := by decide +kernel
theorem dX7_loadsOn_39 : decode cX7_loadsOn 39 = .ok (.iload_n 2, 1) := by decide +kernel
theorem dX7_loadsOn_40 : decode cX7_loadsOn 40 = .ok (.ireturn, 1) := by decide +kernel
theorem dX7_beam_0 : decode cX7_beam 0 = .ok (.aload_n 0, 1) := by decide +kernel
theorem dX7_beam_1 : decode cX7_beam 1 = .ok (.iload_n 1, 1) := by decide +kernel
theorem dX7_beam_2 : decode cX7_beam 2 = .ok (.invokevirtual 205, 3) := by decide +kernel
theorem dX7_beam_5 : decode cX7_beam 5 = .ok (.ifCond .eq 15, 3) := by decide +kernel
theorem dX7_beam_8 : decode cX7_beam 8 = .ok (.iload_n 2, 1) := by decide +kernel
theorem dX7_beam_9 : decode cX7_beam 9 = .ok (.i2l, 1) := by decide +kernel
theorem dX7_beam_10 : decode cX7_beam 10 = .ok (.lconst 0, 1) := by decide +kernel
theorem dX7_beam_11 : decode cX7_beam 11 = .ok (.ldc2_w 208, 3) := by decide +kernel
theorem dX7_beam_14 : decode cX7_beam 14 = .ok (.invokestatic 66, 3) := by decide +kernel
theorem dX7_beam_17 : decode cX7_beam 17 = .ok (.ifCond .ne 5, 3) := by decide +kernel
theorem dX7_beam_20 : decode cX7_beam 20 = .ok (.iconst (-1), 1) := by decide +kernel
theorem dX7_beam_21 : decode cX7_beam 21 = .ok (.ireturn, 1) := by decide +kernel
theorem dX7_beam_22 : decode cX7_beam 22 = .ok (.iload_n 2, 1) := by decide +kernel
theorem dX7_beam_23 : decode cX7_beam 23 = .ok (.iconst 4, 1) := by decide +kernel
theorem dX7_beam_24 : decode cX7_beam 24 = .ok (.if_icmp .ge 20, 3) := by decide +kernel
theorem dX7_beam_27 : decode cX7_beam 27 = .ok (.aload_n 0, 1) := by decide +kernel
theorem dX7_beam_28 : decode cX7_beam 28 = .ok (.getfield 7, 3) := by decide +kernel
theorem dX7_beam_31 : decode cX7_beam 31 = .ok (.bipush 12, 2) := by decide +kernel
theorem dX7_beam_33 : decode cX7_beam 33 = .ok (.bipush 10, 2) := by decide +kernel
theorem dX7_beam_35 : decode cX7_beam 35 = .ok (.iload_n 2, 1) := by decide +kernel
theorem dX7_beam_36 : decode cX7_beam 36 = .ok (.imul, 1) := by decide +kernel
theorem dX7_beam_37 : decode cX7_beam 37 = .ok (.iadd, 1) := by decide +kernel
theorem dX7_beam_38 : decode cX7_beam 38 = .ok (.iload_n 1, 1) := by decide +kernel
theorem dX7_beam_39 : decode cX7_beam 39 = .ok (.iadd, 1) := by decide +kernel
theorem dX7_beam_40 : decode cX7_beam 40 = .ok (.iaload, 1) := by decide +kernel
theorem dX7_beam_41 : decode cX7_beam 41 = .ok (.goto 23, 3) := by decide +kernel
theorem dX7_beam_44 : decode cX7_beam 44 = .ok (.iload_n 2, 1) := by decide +kernel
theorem dX7_beam_45 : decode cX7_beam 45 = .ok (.iconst 4, 1) := by decide +kernel
theorem dX7_beam_46 : decode cX7_beam 46 = .ok (.if_icmp .ne 13, 3) := by decide +kernel
theorem dX7_beam_49 : decode cX7_beam 49 = .ok (.aload_n 0, 1) := by decide +kernel
theorem dX7_beam_50 : decode cX7_beam 50 = .ok (.iconst 2, 1) := by decide +kernel
theorem dX7_beam_51 : decode cX7_beam 51 = .ok (.iload_n 1, 1) := by decide +kernel
theorem dX7_beam_52 : decode cX7_beam 52 = .ok (.imul, 1) := by decide +kernel
theorem dX7_beam_53 : decode cX7_beam 53 = .ok (.invokevirtual 171, 3) := by decide +kernel
theorem dX7_beam_56 : decode cX7_beam 56 = .ok (.goto 8, 3) := by decide +kernel
theorem dX7_beam_59 : decode cX7_beam 59 = .ok (.aload_n 0, 1) := by decide +kernel
theorem dX7_beam_60 : decode cX7_beam 60 = .ok (.iload_n 1, 1) := by decide +kernel
theorem dX7_beam_61 : decode cX7_beam 61 = .ok (.invokevirtual 210, 3) := by decide +kernel
theorem dX7_beam_64 : decode cX7_beam 64 = .ok (.ireturn, 1) := by decide +kernel
theorem dX7_load_0 : decode cX7_load 0 = .ok (.iload_n 1, 1) := by decide +kernel
theorem dX7_load_1 : decode cX7_load 1 = .ok (.i2l, 1) := by decide +kernel
theorem dX7_load_2 : decode cX7_load 2 = .ok (.lconst 0, 1) := by decide +kernel
theorem dX7_load_3 : decode cX7_load 3 = .ok (.aload_n 0, 1) := by decide +kernel
