theorem dX5_home_13 : decode cX5_home 13 = .ok (.ifCond .ne 6, 3) := by decide +kernel
theorem dX5_home_16 : decode cX5_home 16 = .ok (.bipush (-101), 2) := by decide +kernel
theorem dX5_home_18 : decode cX5_home 18 = .ok (.ireturn, 1) := by decide +kernel
theorem dX5_home_19 : decode cX5_home 19 = .ok (.aload_n 0, 1) := by decide +kernel
theorem dX5_home_20 : decode cX5_home 20 = .ok (.getfield 21, 3) := by decide +kernel
theorem dX5_home_23 : decode cX5_home 23 = .ok (.aload_n 0, 1) := by decide +kernel
theorem dX5_home_24 : decode cX5_home 24 = .ok (.getfield 38, 3) := by decide +kernel
theorem dX5_home_27 : decode cX5_home 27 = .ok (.getfield 82, 3) := by decide +kernel
theorem dX5_home_30 : decode cX5_home 30 = .ok (.aload_n 0, 1) := by decide +kernel
theorem dX5_home_31 : decode cX5_home 31 = .ok (.getfield 38, 3) := by decide +kernel
theorem dX5_home_34 : decode cX5_home 34 = .ok (.getfield 93, 3) := by decide +kernel
theorem dX5_home_37 : decode cX5_home 37 = .ok (.invokevirtual 112, 3) := by decide +kernel
theorem dX5_home_40 : decode cX5_home 40 = .ok (.aload_n 0, 1) := by decide +kernel
theorem dX5_home_41 : decode cX5_home 41 = .ok (.getfield 21, 3) := by decide +kernel
theorem dX5_home_44 : decode cX5_home 44 = .ok (.iload_n 1, 1) := by decide +kernel
theorem dX5_home_45 : decode cX5_home 45 = .ok (.iload_n 2, 1) := by decide +kernel
theorem dX5_home_46 : decode cX5_home 46 = .ok (.invokevirtual 116, 3) := by decide +kernel
theorem dX5_home_49 : decode cX5_home 49 = .ok (.ireturn, 1) := by decide +kernel
theorem dX5_swaps_0 : decode cX5_swaps 0 = .ok (.aload_n 0, 1) := by decide +kernel
theorem dX5_swaps_1 : decode cX5_swaps 1 = .ok (.invokevirtual 159, 3) := by decide +kernel
theorem dX5_swaps_4 : decode cX5_swaps 4 = .ok (.ifCond .ne 6, 3) := by decide +kernel
theorem dX5_swaps_7 : decode cX5_swaps 7 = .ok (.bipush (-103), 2) := by decide +kernel
theorem dX5_swaps_9 : decode cX5_swaps 9 = .ok (.ireturn, 1) := by decide +kernel
theorem dX5_swaps_10 : decode cX5_swaps 10 = .ok (.bipush 6, 2) := by decide +kernel
theorem dX5_swaps_12 : decode cX5_swaps 12 = .ok (.aload_n 0, 1) := by decide +kernel
theorem dX5_swaps_13 : decode cX5_swaps 13 = .ok (.invokevirtual 178, 3) := by decide +kernel
theorem dX5_swaps_16 : decode cX5_swaps 16 = .ok (.isub, 1) := by decide +kernel
theorem dX5_swaps_17 : decode cX5_swaps 17 = .ok (.ireturn, 1) := by decide +kernel
theorem dX5_cheap_0 : decode cX5_cheap 0 = .ok (.iload_n 1, 1) := by decide +kernel
theorem dX5_cheap_1 : decode cX5_cheap 1 = .ok (.iconst 0, 1) := by decide +kernel
theorem dX5_cheap_2 : decode cX5_cheap 2 = .ok (.iconst 1, 1) := by decide +kernel
theorem dX5_cheap_3 : decode cX5_cheap 3 = .ok (.invokestatic 52, 3) := by decide +kernel
theorem dX5_cheap_6 : decode cX5_cheap 6 = .ok (.ifCond .ne 6, 3) := by decide +kernel
theorem dX5_cheap_9 : decode cX5_cheap 9 = .ok (.bipush (-102), 2) := by decide +kernel
theorem dX5_cheap_11 : decode cX5_cheap 11 = .ok (.ireturn, 1) := by decide +kernel
theorem dX5_cheap_12 : decode cX5_cheap 12 = .ok (.aload_n 0, 1) := by decide +kernel
theorem dX5_cheap_13 : decode cX5_cheap 13 = .ok (.invokevirtual 159, 3) := by decide +kernel
theorem dX5_cheap_16 : decode cX5_cheap 16 = .ok (.ifCond .eq 12, 3) := by decide +kernel
theorem dX5_cheap_19 : decode cX5_cheap 19 = .ok (.aload_n 0, 1) := by decide +kernel
theorem dX5_cheap_20 : decode cX5_cheap 20 = .ok (.getfield 181, 3) := by decide +kernel
theorem dX5_cheap_23 : decode cX5_cheap 23 = .ok (.bipush 20, 2) := by decide +kernel
theorem dX5_cheap_25 : decode cX5_cheap 25 = .ok (.if_icmp .lt 6, 3) := by decide +kernel
theorem dX5_cheap_28 : decode cX5_cheap 28 = .ok (.bipush (-103), 2) := by decide +kernel
theorem dX5_cheap_30 : decode cX5_cheap 30 = .ok (.ireturn, 1) := by decide +kernel
theorem dX5_cheap_31 : decode cX5_cheap 31 = .ok (.aload_n 0, 1) := by decide +kernel
theorem dX5_cheap_32 : decode cX5_cheap 32 = .ok (.dup, 1) := by decide +kernel
theorem dX5_cheap_33 : decode cX5_cheap 33 = .ok (.getfield 181, 3) := by decide +kernel
theorem dX5_cheap_36 : decode cX5_cheap 36 = .ok (.iconst 1, 1) := by decide +kernel
theorem dX5_cheap_37 : decode cX5_cheap 37 = .ok (.iadd, 1) := by decide +kernel
theorem dX5_cheap_38 : decode cX5_cheap 38 = .ok (.putfield 181, 3) := by decide +kernel
theorem dX5_cheap_41 : decode cX5_cheap 41 = .ok (.aload_n 0, 1) := by decide +kernel
theorem dX5_cheap_42 : decode cX5_cheap 42 = .ok (.getfield 25, 3) := by decide +kernel
theorem dX5_cheap_45 : decode cX5_cheap 45 = .ok (.aload_n 0, 1) := by decide +kernel
theorem dX5_cheap_46 : decode cX5_cheap 46 = .ok (.getfield 38, 3) := by decide +kernel
theorem dX5_cheap_49 : decode cX5_cheap 49 = .ok (.getfield 99, 3) := by decide +kernel
theorem dX5_cheap_52 : decode cX5_cheap 52 = .ok (.aload_n 0, 1) := by decide +kernel
theorem dX5_cheap_53 : decode cX5_cheap 53 = .ok (.getfield 38, 3) := by decide +kernel
theorem dX5_cheap_56 : decode cX5_cheap 56 = .ok (.getfield 93, 3) := by decide +kernel
theorem dX5_cheap_59 : decode cX5_cheap 59 = .ok (.invokevirtual 112, 3) := by decide +kernel
theorem dX5_cheap_62 : decode cX5_cheap 62 = .ok (.iconst (-1), 1) := by decide +kernel
theorem dX5_cheap_63 : decode cX5_cheap 63 = .ok (.istore_n 2, 1) := by decide +kernel
theorem dX5_cheap_64 : decode cX5_cheap 64 = .ok (.iconst (-1), 1) := by decide +kernel
theorem dX5_cheap_65 : decode cX5_cheap 65 = .ok (.istore_n 3, 1) := by decide +kernel
theorem dX5_cheap_66 : decode cX5_cheap 66 = .ok (.iconst 0, 1) := by decide +kernel
theorem dX5_cheap_67 : decode cX5_cheap 67 = .ok (.istore 4, 2) := by decide +kernel
theorem dX5_cheap_69 : decode cX5_cheap 69 = .ok (.iload 4, 2) := by decide +kernel
theorem dX5_cheap_71 : decode cX5_cheap 71 = .ok (.bipush 6, 2) := by decide +kernel
theorem dX5_cheap_73 : decode cX5_cheap 73 = .ok (.if_icmp .ge 84, 3) := by decide +kernel
theorem dX5_cheap_76 : decode cX5_cheap 76 = .ok (.iload 4, 2) := by decide +kernel
theorem dX5_cheap_78 : decode cX5_cheap 78 = .ok (.iconst 1, 1) := by decide +kernel
theorem dX5_cheap_79 : decode cX5_cheap 79 = .ok (.iadd, 1) := by decide +kernel
theorem dX5_cheap_80 : decode cX5_cheap 80 = .ok (.istore 5, 2) := by decide +kernel
theorem dX5_cheap_82 : decode cX5_cheap 82 = .ok (.iload 5, 2) := by decide +kernel
theorem dX5_cheap_84 : decode cX5_cheap 84 = .ok (.bipush 6, 2) := by decide +kernel
theorem dX5_cheap_86 : decode cX5_cheap 86 = .ok (.if_icmp .ge 65, 3) := by decide +kernel
theorem dX5_cheap_89 : decode cX5_cheap 89 = .ok (.aload_n 0, 1) := by decide +kernel
theorem dX5_cheap_90 : decode cX5_cheap 90 = .ok (.getfield 25, 3) := by decide +kernel
theorem dX5_cheap_93 : decode cX5_cheap 93 = .ok (.aload_n 0, 1) := by decide +kernel
theorem dX5_cheap_94 : decode cX5_cheap 94 = .ok (.getfield 10, 3) := by decide +kernel
theorem dX5_cheap_97 : decode cX5_cheap 97 = .ok (.aload_n 0, 1) := by decide +kernel
theorem dX5_cheap_98 : decode cX5_cheap 98 = .ok (.getfield 38, 3) := by decide +kernel
theorem dX5_cheap_101 : decode cX5_cheap 101 = .ok (.getfield 82, 3) := by decide +kernel
theorem dX5_cheap_104 : decode cX5_cheap 104 = .ok (.iload 4, 2) := by decide +kernel
theorem dX5_cheap_106 : decode cX5_cheap 106 = .ok (.iload 5, 2) := by decide +kernel
theorem dX5_cheap_108 : decode cX5_cheap 108 = .ok (.invokevirtual 153, 3) := by decide +kernel
theorem dX5_cheap_111 : decode cX5_cheap 111 = .ok (.invokevirtual 163, 3) := by decide +kernel
theorem dX5_cheap_114 : decode cX5_cheap 114 = .ok (.istore 6, 2) := by decide +kernel
theorem dX5_cheap_116 : decode cX5_cheap 116 = .ok (.iload 6, 2) := by decide +kernel
theorem dX5_cheap_118 : decode cX5_cheap 118 = .ok (.iconst (-1), 1) := by decide +kernel
theorem dX5_cheap_119 : decode cX5_cheap 119 = .ok (.if_icmp .eq 26, 3) := by decide +kernel
theorem dX5_cheap_122 : decode cX5_cheap 122 = .ok (.iload_n 3, 1) := by decide +kernel
theorem dX5_cheap_123 : decode cX5_cheap 123 = .ok (.iconst (-1), 1) := by decide +kernel
theorem dX5_cheap_124 : decode cX5_cheap 124 = .ok (.if_icmp .eq 9, 3) := by decide +kernel
theorem dX5_cheap_127 : decode cX5_cheap 127 = .ok (.iload 6, 2) := by decide +kernel
theorem dX5_cheap_129 : decode cX5_cheap 129 = .ok (.iload_n 3, 1) := by decide +kernel
theorem dX5_cheap_130 : decode cX5_cheap 130 = .ok (.if_icmp .ge 15, 3) := by decide +kernel
theorem dX5_cheap_133 : decode cX5_cheap 133 = .ok (.bipush 10, 2) := by decide +kernel
theorem dX5_cheap_135 : decode cX5_cheap 135 = .ok (.iload 4, 2) := by decide +kernel
theorem dX5_cheap_137 : decode cX5_cheap 137 = .ok (.imul, 1) := by decide +kernel
theorem dX5_cheap_138 : decode cX5_cheap 138 = .ok (.iload 5, 2) := by decide +kernel
theorem dX5_cheap_140 : decode cX5_cheap 140 = .ok (.iadd, 1) := by decide +kernel
theorem dX5_cheap_141 : decode cX5_cheap 141 = .ok (.istore_n 2, 1) := by decide +kernel
theorem dX5_cheap_142 : decode cX5_cheap 142 = .ok (.iload 6, 2) := by decide +kernel
theorem dX5_cheap_144 : decode cX5_cheap 144 = .ok (.istore_n 3, 1) := by decide +kernel
theorem dX5_cheap_145 : decode cX5_cheap 145 = .ok (.iinc 5 1, 3) := by decide +kernel
theorem dX5_cheap_148 : decode cX5_cheap 148 = .ok (.goto (-66), 3) := by decide +kernel
theorem dX5_cheap_151 : decode cX5_cheap 151 = .ok (.iinc 4 1, 3) := by decide +kernel
theorem dX5_cheap_154 : decode cX5_cheap 154 = .ok (.goto (-85), 3) := by decide +kernel
theorem dX5_cheap_157 : decode cX5_cheap 157 = .ok (.iload_n 1, 1) := by decide +kernel
theorem dX5_cheap_158 : decode cX5_cheap 158 = .ok (.ifCond .ne 7, 3) := by decide +kernel
theorem dX5_cheap_161 : decode cX5_cheap 161 = .ok (.iload_n 2, 1) := by decide +kernel
theorem dX5_cheap_162 : decode cX5_cheap 162 = .ok (.goto 4, 3) := by decide +kernel
theorem dX5_cheap_165 : decode cX5_cheap 165 = .ok (.iload_n 3, 1) := by decide +kernel
theorem dX5_cheap_166 : decode cX5_cheap 166 = .ok (.ireturn, 1) := by decide +kernel
theorem dX5_odds_0 : decode cX5_odds 0 = .ok (.aload_n 0, 1) := by decide +kernel
theorem dX5_odds_1 : decode cX5_odds 1 = .ok (.iload_n 1, 1) := by decide +kernel
theorem dX5_odds_2 : decode cX5_odds 2 = .ok (.invokevirtual 89, 3) := by decide +kernel
theorem dX5_odds_5 : decode cX5_odds 5 = .ok (.ifCond .eq 11, 3) := by decide +kernel
theorem dX5_odds_8 : decode cX5_odds 8 = .ok (.aload_n 0, 1) := by decide +kernel
theorem dX5_odds_9 : decode cX5_odds 9 = .ok (.iload_n 2, 1) := by decide +kernel
theorem dX5_odds_10 : decode cX5_odds 10 = .ok (.invokevirtual 131, 3) := by decide +kernel
theorem dX5_odds_13 : decode cX5_odds 13 = .ok (.ifCond .ne 6, 3) := by decide +kernel
theorem dX5_odds_16 : decode cX5_odds 16 = .ok (.bipush (-101), 2) := by decide +kernel
theorem dX5_odds_18 : decode cX5_odds 18 = .ok (.ireturn, 1) := by decide +kernel
theorem dX5_odds_19 : decode cX5_odds 19 = .ok (.iload_n 3, 1) := by decide +kernel
theorem dX5_odds_20 : decode cX5_odds 20 = .ok (.iconst 1, 1) := by decide +kernel
theorem dX5_odds_21 : decode cX5_odds 21 = .ok (.bipush 6, 2) := by decide +kernel
theorem dX5_odds_23 : decode cX5_odds 23 = .ok (.invokestatic 52, 3) := by decide +kernel
theorem dX5_odds_26 : decode cX5_odds 26 = .ok (.ifCond .eq 13, 3) := by decide +kernel
theorem dX5_odds_29 : decode cX5_odds 29 = .ok (.iload 4, 2) := by decide +kernel
theorem dX5_odds_31 : decode cX5_odds 31 = .ok (.iconst 0, 1) := by decide +kernel
theorem dX5_odds_32 : decode cX5_odds 32 = .ok (.iconst 1, 1) := by decide +kernel
theorem dX5_odds_33 : decode cX5_odds 33 = .ok (.invokestatic 52, 3) := by decide +kernel
theorem dX5_odds_36 : decode cX5_odds 36 = .ok (.ifCond .ne 6, 3) := by decide +kernel
theorem dX5_odds_39 : decode cX5_odds 39 = .ok (.bipush (-102), 2) := by decide +kernel
theorem dX5_odds_41 : decode cX5_odds 41 = .ok (.ireturn, 1) := by decide +kernel
theorem dX5_odds_42 : decode cX5_odds 42 = .ok (.aload_n 0, 1) := by decide +kernel
theorem dX5_odds_43 : decode cX5_odds 43 = .ok (.getfield 31, 3) := by decide +kernel
theorem dX5_odds_46 : decode cX5_odds 46 = .ok (.aload_n 0, 1) := by decide +kernel
theorem dX5_odds_47 : decode cX5_odds 47 = .ok (.getfield 38, 3) := by decide +kernel
theorem dX5_odds_50 : decode cX5_odds 50 = .ok (.getfield 82, 3) := by decide +kernel
theorem dX5_odds_53 : decode cX5_odds 53 = .ok (.aload_n 0, 1) := by decide +kernel
theorem dX5_odds_54 : decode cX5_odds 54 = .ok (.getfield 38, 3) := by decide +kernel
theorem dX5_odds_57 : decode cX5_odds 57 = .ok (.getfield 93, 3) := by decide +kernel
theorem dX5_odds_60 : decode cX5_odds 60 = .ok (.iload_n 3, 1) := by decide +kernel
theorem dX5_odds_61 : decode cX5_odds 61 = .ok (.invokevirtual 184, 3) := by decide +kernel
theorem dX5_odds_64 : decode cX5_odds 64 = .ok (.aload_n 0, 1) := by decide +kernel
theorem dX5_odds_65 : decode cX5_odds 65 = .ok (.getfield 31, 3) := by decide +kernel
theorem dX5_odds_68 : decode cX5_odds 68 = .ok (.iload_n 1, 1) := by decide +kernel
theorem dX5_odds_69 : decode cX5_odds 69 = .ok (.iload_n 2, 1) := by decide +kernel
theorem dX5_odds_70 : decode cX5_odds 70 = .ok (.invokevirtual 187, 3) := by decide +kernel
theorem dX5_odds_73 : decode cX5_odds 73 = .ok (.istore 5, 2) := by decide +kernel
theorem dX5_odds_75 : decode cX5_odds 75 = .ok (.iconst 1, 1) := by decide +kernel
theorem dX5_odds_76 : decode cX5_odds 76 = .ok (.ldc 190, 2) := by decide +kernel
theorem dX5_odds_78 : decode cX5_odds 78 = .ok (.iload 5, 2) := by decide +kernel
theorem dX5_odds_80 : decode cX5_odds 80 = .ok (.invokestatic 191, 3) := by decide +kernel
theorem dX5_odds_83 : decode cX5_odds 83 = .ok (.invokestatic 194, 3) := by decide +kernel
theorem dX5_odds_86 : decode cX5_odds 86 = .ok (.istore 6, 2) := by decide +kernel
theorem dX5_odds_88 : decode cX5_odds 88 = .ok (.iload 4, 2) := by decide +kernel
theorem dX5_odds_90 : decode cX5_odds 90 = .ok (.ifCond .ne 8, 3) := by decide +kernel
theorem dX5_odds_93 : decode cX5_odds 93 = .ok (.iload 5, 2) := by decide +kernel
theorem dX5_odds_95 : decode cX5_odds 95 = .ok (.goto 5, 3) := by decide +kernel
theorem dX5_odds_98 : decode cX5_odds 98 = .ok (.ldc 190, 2) := by decide +kernel
theorem dX5_odds_100 : decode cX5_odds 100 = .ok (.iload 6, 2) := by decide +kernel
theorem dX5_odds_102 : decode cX5_odds 102 = .ok (.idiv, 1) := by decide +kernel
theorem dX5_odds_103 : decode cX5_odds 103 = .ok (.ireturn, 1) := by decide +kernel
theorem dX5_see_0 : decode cX5_see 0 = .ok (.aload_n 0, 1) := by decide +kernel
theorem dX5_see_1 : decode cX5_see 1 = .ok (.iload_n 1, 1) := by decide +kernel
theorem dX5_see_2 : decode cX5_see 2 = .ok (.invokevirtual 89, 3) := by decide +kernel
theorem dX5_see_5 : decode cX5_see 5 = .ok (.ifCond .ne 6, 3) := by decide +kernel
theorem dX5_see_8 : decode cX5_see 8 = .ok (.bipush (-101), 2) := by decide +kernel
theorem dX5_see_10 : decode cX5_see 10 = .ok (.ireturn, 1) := by decide +kernel
theorem dX5_see_11 : decode cX5_see 11 = .ok (.iload_n 2, 1) := by decide +kernel
theorem dX5_see_12 : decode cX5_see 12 = .ok (.iconst 0, 1) := by decide +kernel
theorem dX5_see_13 : decode cX5_see 13 = .ok (.iconst 1, 1) := by decide +kernel
theorem dX5_see_14 : decode cX5_see 14 = .ok (.invokestatic 52, 3) := by decide +kernel
theorem dX5_see_17 : decode cX5_see 17 = .ok (.ifCond .eq 12, 3) := by decide +kernel
theorem dX5_see_20 : decode cX5_see 20 = .ok (.iload_n 3, 1) := by decide +kernel
theorem dX5_see_21 : decode cX5_see 21 = .ok (.iconst 0, 1) := by decide +kernel
theorem dX5_see_22 : decode cX5_see 22 = .ok (.iconst 3, 1) := by decide +kernel
theorem dX5_see_23 : decode cX5_see 23 = .ok (.invokestatic 52, 3) := by decide +kernel
theorem dX5_see_26 : decode cX5_see 26 = .ok (.ifCond .ne 6, 3) := by decide +kernel
theorem dX5_see_29 : decode cX5_see 29 = .ok (.bipush (-102), 2) := by decide +kernel
theorem dX5_see_31 : decode cX5_see 31 = .ok (.ireturn, 1) := by decide +kernel
theorem dX5_see_32 : decode cX5_see 32 = .ok (.aload_n 0, 1) := by decide +kernel
theorem dX5_see_33 : decode cX5_see 33 = .ok (.getfield 38, 3) := by decide +kernel
theorem dX5_see_36 : decode cX5_see 36 = .ok (.getfield 199, 3) := by decide +kernel
theorem dX5_see_39 : decode cX5_see 39 = .ok (.bipush 6, 2) := by decide +kernel
theorem dX5_see_41 : decode cX5_see 41 = .ok (.if_icmp .lt 6, 3) := by decide +kernel
theorem dX5_see_44 : decode cX5_see 44 = .ok (.bipush (-104), 2) := by decide +kernel
theorem dX5_see_46 : decode cX5_see 46 = .ok (.ireturn, 1) := by decide +kernel
theorem dX5_see_47 : decode cX5_see 47 = .ok (.aload_n 0, 1) := by decide +kernel
theorem dX5_see_48 : decode cX5_see 48 = .ok (.getfield 38, 3) := by decide +kernel
theorem dX5_see_51 : decode cX5_see 51 = .ok (.iload_n 1, 1) := by decide +kernel
theorem dX5_see_52 : decode cX5_see 52 = .ok (.iload_n 2, 1) := by decide +kernel
theorem dX5_see_53 : decode cX5_see 53 = .ok (.iload_n 3, 1) := by decide +kernel
theorem dX5_see_54 : decode cX5_see 54 = .ok (.invokestatic 202, 3) := by decide +kernel
theorem dX5_see_57 : decode cX5_see 57 = .ok (.invokevirtual 205, 3) := by decide +kernel
theorem dX5_see_60 : decode cX5_see 60 = .ok (.aload_n 0, 1) := by decide +kernel
theorem dX5_see_61 : decode cX5_see 61 = .ok (.getfield 38, 3) := by decide +kernel
theorem dX5_see_64 : decode cX5_see 64 = .ok (.getfield 199, 3) := by decide +kernel
theorem dX5_see_67 : decode cX5_see 67 = .ok (.ireturn, 1) := by decide +kernel
theorem dX5_forget_0 : decode cX5_forget 0 = .ok (.aload_n 0, 1) := by decide +kernel
theorem dX5_forget_1 : decode cX5_forget 1 = .ok (.getfield 38, 3) := by decide +kernel
theorem dX5_forget_4 : decode cX5_forget 4 = .ok (.getfield 199, 3) := by decide +kernel
theorem dX5_forget_7 : decode cX5_forget 7 = .ok (.istore_n 1, 1) := by decide +kernel
theorem dX5_forget_8 : decode cX5_forget 8 = .ok (.aload_n 0, 1) := by decide +kernel
theorem dX5_forget_9 : decode cX5_forget 9 = .ok (.getfield 38, 3) := by decide +kernel
theorem dX5_forget_12 : decode cX5_forget 12 = .ok (.invokevirtual 208, 3) := by decide +kernel
theorem dX5_forget_15 : decode cX5_forget 15 = .ok (.iload_n 1, 1) := by decide +kernel
theorem dX5_forget_16 : decode cX5_forget 16 = .ok (.ireturn, 1) := by decide +kernel
theorem dX5_runs_0 : decode cX5_runs 0 = .ok (.iload_n 1, 1) := by decide +kernel
theorem dX5_runs_1 : decode cX5_runs 1 = .ok (.iconst 1, 1) := by decide +kernel
theorem dX5_runs_2 : decode cX5_runs 2 = .ok (.bipush 60, 2) := by decide +kernel
theorem dX5_runs_4 : decode cX5_runs 4 = .ok (.invokestatic 52, 3) := by decide +kernel
theorem dX5_runs_7 : decode cX5_runs 7 = .ok (.ifCond .eq 16, 3) := by decide +kernel
theorem dX5_runs_10 : decode cX5_runs 10 = .ok (.iload_n 2, 1) := by decide +kernel
theorem dX5_runs_11 : decode cX5_runs 11 = .ok (.ifCond .lt 12, 3) := by decide +kernel
theorem dX5_runs_14 : decode cX5_runs 14 = .ok (.iload_n 3, 1) := by decide +kernel
theorem dX5_runs_15 : decode cX5_runs 15 = .ok (.iconst 0, 1) := by decide +kernel
theorem dX5_runs_16 : decode cX5_runs 16 = .ok (.iconst 2, 1) := by decide +kernel
theorem dX5_runs_17 : decode cX5_runs 17 = .ok (.invokestatic 52, 3) := by decide +kernel
theorem dX5_runs_20 : decode cX5_runs 20 = .ok (.ifCond .ne 6, 3) := by decide +kernel
theorem dX5_runs_23 : decode cX5_runs 23 = .ok (.bipush (-102), 2) := by decide +kernel
theorem dX5_runs_25 : decode cX5_runs 25 = .ok (.ireturn, 1) := by decide +kernel
theorem dX5_runs_26 : decode cX5_runs 26 = .ok (.aload_n 0, 1) := by decide +kernel
theorem dX5_runs_27 : decode cX5_runs 27 = .ok (.invokevirtual 159, 3) := by decide +kernel
theorem dX5_runs_30 : decode cX5_runs 30 = .ok (.ifCond .ne 6, 3) := by decide +kernel
theorem dX5_runs_33 : decode cX5_runs 33 = .ok (.bipush (-103), 2) := by decide +kernel
theorem dX5_runs_35 : decode cX5_runs 35 = .ok (.ireturn, 1) := by decide +kernel
theorem dX5_runs_36 : decode cX5_runs 36 = .ok (.aload_n 0, 1) := by decide +kernel
theorem dX5_runs_37 : decode cX5_runs 37 = .ok (.getfield 38, 3) := by decide +kernel
theorem dX5_runs_40 : decode cX5_runs 40 = .ok (.getfield 82, 3) := by decide +kernel
theorem dX5_runs_43 : decode cX5_runs 43 = .ok (.istore 4, 2) := by decide +kernel
theorem dX5_runs_45 : decode cX5_runs 45 = .ok (.iload_n 2, 1) := by decide +kernel
theorem dX5_runs_46 : decode cX5_runs 46 = .ok (.istore 5, 2) := by decide +kernel
theorem dX5_runs_48 : decode cX5_runs 48 = .ok (.iconst 0, 1) := by decide +kernel
theorem dX5_runs_49 : decode cX5_runs 49 = .ok (.istore 6, 2) := by decide +kernel
theorem dX5_runs_51 : decode cX5_runs 51 = .ok (.iconst 0, 1) := by decide +kernel
theorem dX5_runs_52 : decode cX5_runs 52 = .ok (.istore 7, 2) := by decide +kernel
theorem dX5_runs_54 : decode cX5_runs 54 = .ok (.iload 7, 2) := by decide +kernel
theorem dX5_runs_56 : decode cX5_runs 56 = .ok (.iload_n 1, 1) := by decide +kernel
theorem dX5_runs_57 : decode cX5_runs 57 = .ok (.if_icmp .ge 101, 3) := by decide +kernel
theorem dX5_runs_60 : decode cX5_runs 60 = .ok (.aload_n 0, 1) := by decide +kernel
theorem dX5_runs_61 : decode cX5_runs 61 = .ok (.getfield 10, 3) := by decide +kernel
theorem dX5_runs_64 : decode cX5_runs 64 = .ok (.iload 4, 2) := by decide +kernel
theorem dX5_runs_66 : decode cX5_runs 66 = .ok (.aload_n 0, 1) := by decide +kernel
theorem dX5_runs_67 : decode cX5_runs 67 = .ok (.getfield 38, 3) := by decide +kernel
theorem dX5_runs_70 : decode cX5_runs 70 = .ok (.getfield 93, 3) := by decide +kernel
theorem dX5_runs_73 : decode cX5_runs 73 = .ok (.invokevirtual 211, 3) := by decide +kernel
theorem dX5_runs_76 : decode cX5_runs 76 = .ok (.istore 8, 2) := by decide +kernel
theorem dX5_runs_78 : decode cX5_runs 78 = .ok (.iload 8, 2) := by decide +kernel
theorem dX5_runs_80 : decode cX5_runs 80 = .ok (.ifCond .le 72, 3) := by decide +kernel
theorem dX5_runs_83 : decode cX5_runs 83 = .ok (.iload 5, 2) := by decide +kernel
theorem dX5_runs_85 : decode cX5_runs 85 = .ok (.invokestatic 214, 3) := by decide +kernel
theorem dX5_runs_88 : decode cX5_runs 88 = .ok (.istore 5, 2) := by decide +kernel
theorem dX5_runs_90 : decode cX5_runs 90 = .ok (.aload_n 0, 1) := by decide +kernel
theorem dX5_runs_91 : decode cX5_runs 91 = .ok (.getfield 10, 3) := by decide +kernel
theorem dX5_runs_94 : decode cX5_runs 94 = .ok (.iload 4, 2) := by decide +kernel
theorem dX5_runs_96 : decode cX5_runs 96 = .ok (.aload_n 0, 1) := by decide +kernel
theorem dX5_runs_97 : decode cX5_runs 97 = .ok (.getfield 38, 3) := by decide +kernel
theorem dX5_runs_100 : decode cX5_runs 100 = .ok (.getfield 93, 3) := by decide +kernel
theorem dX5_runs_103 : decode cX5_runs 103 = .ok (.iload 5, 2) := by decide +kernel
theorem dX5_runs_105 : decode cX5_runs 105 = .ok (.ldc 217, 2) := by decide +kernel
theorem dX5_runs_107 : decode cX5_runs 107 = .ok (.idiv, 1) := by decide +kernel
theorem dX5_runs_108 : decode cX5_runs 108 = .ok (.iload 8, 2) := by decide +kernel
theorem dX5_runs_110 : decode cX5_runs 110 = .ok (.irem, 1) := by decide +kernel
theorem dX5_runs_111 : decode cX5_runs 111 = .ok (.invokevirtual 218, 3) := by decide +kernel
theorem dX5_runs_114 : decode cX5_runs 114 = .ok (.istore 9, 2) := by decide +kernel
theorem dX5_runs_116 : decode cX5_runs 116 = .ok (.iload 6, 2) := by decide +kernel
theorem dX5_runs_118 : decode cX5_runs 118 = .ok (.aload_n 0, 1) := by decide +kernel
theorem dX5_runs_119 : decode cX5_runs 119 = .ok (.getfield 10, 3) := by decide +kernel
theorem dX5_runs_122 : decode cX5_runs 122 = .ok (.iload 4, 2) := by decide +kernel
theorem dX5_runs_124 : decode cX5_runs 124 = .ok (.iload 9, 2) := by decide +kernel
theorem dX5_runs_126 : decode cX5_runs 126 = .ok (.aload_n 0, 1) := by decide +kernel
theorem dX5_runs_127 : decode cX5_runs 127 = .ok (.getfield 38, 3) := by decide +kernel
theorem dX5_runs_130 : decode cX5_runs 130 = .ok (.getfield 93, 3) := by decide +kernel
theorem dX5_runs_133 : decode cX5_runs 133 = .ok (.invokevirtual 102, 3) := by decide +kernel
theorem dX5_runs_136 : decode cX5_runs 136 = .ok (.iadd, 1) := by decide +kernel
theorem dX5_runs_137 : decode cX5_runs 137 = .ok (.istore 6, 2) := by decide +kernel
theorem dX5_runs_139 : decode cX5_runs 139 = .ok (.aload_n 0, 1) := by decide +kernel
theorem dX5_runs_140 : decode cX5_runs 140 = .ok (.getfield 10, 3) := by decide +kernel
theorem dX5_runs_143 : decode cX5_runs 143 = .ok (.iload 4, 2) := by decide +kernel
theorem dX5_runs_145 : decode cX5_runs 145 = .ok (.iload 9, 2) := by decide +kernel
theorem dX5_runs_147 : decode cX5_runs 147 = .ok (.invokevirtual 147, 3) := by decide +kernel
theorem dX5_runs_150 : decode cX5_runs 150 = .ok (.istore 4, 2) := by decide +kernel
theorem dX5_runs_152 : decode cX5_runs 152 = .ok (.iinc 7 1, 3) := by decide +kernel
theorem dX5_runs_155 : decode cX5_runs 155 = .ok (.goto (-101), 3) := by decide +kernel
theorem dX5_runs_158 : decode cX5_runs 158 = .ok (.iload_n 3, 1) := by decide +kernel
theorem dX5_runs_159 : decode cX5_runs 159 = .ok (.ifCond .ne 6, 3) := by decide +kernel
theorem dX5_runs_162 : decode cX5_runs 162 = .ok (.iload 6, 2) := by decide +kernel
theorem dX5_runs_164 : decode cX5_runs 164 = .ok (.ireturn, 1) := by decide +kernel
theorem dX5_runs_165 : decode cX5_runs 165 = .ok (.iload_n 3, 1) := by decide +kernel
theorem dX5_runs_166 : decode cX5_runs 166 = .ok (.iconst 1, 1) := by decide +kernel
theorem dX5_runs_167 : decode cX5_runs 167 = .ok (.if_icmp .ne 19, 3) := by decide +kernel
theorem dX5_runs_170 : decode cX5_runs 170 = .ok (.aload_n 0, 1) := by decide +kernel
theorem dX5_runs_171 : decode cX5_runs 171 = .ok (.iload 4, 2) := by decide +kernel
theorem dX5_runs_173 : decode cX5_runs 173 = .ok (.aload_n 0, 1) := by decide +kernel
theorem dX5_runs_174 : decode cX5_runs 174 = .ok (.getfield 38, 3) := by decide +kernel
theorem dX5_runs_177 : decode cX5_runs 177 = .ok (.getfield 99, 3) := by decide +kernel
theorem dX5_runs_180 : decode cX5_runs 180 = .ok (.invokevirtual 221, 3) := by decide +kernel
theorem dX5_runs_183 : decode cX5_runs 183 = .ok (.goto 5, 3) := by decide +kernel
theorem dX5_runs_186 : decode cX5_runs 186 = .ok (.iload 5, 2) := by decide +kernel
theorem dX5_runs_188 : decode cX5_runs 188 = .ok (.ireturn, 1) := by decide +kernel
theorem dX5_image_0 : decode cX5_image 0 = .ok (.aload_n 0, 1) := by decide +kernel
theorem dX5_image_1 : decode cX5_image 1 = .ok (.invokevirtual 159, 3) := by decide +kernel
theorem dX5_image_4 : decode cX5_image 4 = .ok (.ifCond .ne 6, 3) := by decide +kernel
theorem dX5_image_7 : decode cX5_image 7 = .ok (.bipush (-103), 2) := by decide +kernel
theorem dX5_image_9 : decode cX5_image 9 = .ok (.ireturn, 1) := by decide +kernel
theorem dX5_image_10 : decode cX5_image 10 = .ok (.aload_n 0, 1) := by decide +kernel
theorem dX5_image_11 : decode cX5_image 11 = .ok (.getfield 42, 3) := by decide +kernel
theorem dX5_image_14 : decode cX5_image 14 = .ok (.aload_n 0, 1) := by decide +kernel
theorem dX5_image_15 : decode cX5_image 15 = .ok (.getfield 38, 3) := by decide +kernel
theorem dX5_image_18 : decode cX5_image 18 = .ok (.invokevirtual 224, 3) := by decide +kernel
theorem dX5_image_21 : decode cX5_image 21 = .ok (.aload_n 0, 1) := by decide +kernel
theorem dX5_image_22 : decode cX5_image 22 = .ok (.iconst 1, 1) := by decide +kernel
theorem dX5_image_23 : decode cX5_image 23 = .ok (.putfield 75, 3) := by decide +kernel
theorem dX5_image_26 : decode cX5_image 26 = .ok (.aload_n 0, 1) := by decide +kernel
theorem dX5_image_27 : decode cX5_image 27 = .ok (.getfield 38, 3) := by decide +kernel
theorem dX5_image_30 : decode cX5_image 30 = .ok (.getfield 144, 3) := by decide +kernel
theorem dX5_image_33 : decode cX5_image 33 = .ok (.ireturn, 1) := by decide +kernel
theorem dX5_restore_0 : decode cX5_restore 0 = .ok (.aload_n 0, 1) := by decide +kernel
theorem dX5_restore_1 : decode cX5_restore 1 = .ok (.getfield 75, 3) := by decide +kernel
theorem dX5_restore_4 : decode cX5_restore 4 = .ok (.ifCond .ne 6, 3) := by decide +kernel
theorem dX5_restore_7 : decode cX5_restore 7 = .ok (.bipush (-103), 2) := by decide +kernel
theorem dX5_restore_9 : decode cX5_restore 9 = .ok (.ireturn, 1) := by decide +kernel
theorem dX5_restore_10 : decode cX5_restore 10 = .ok (.aload_n 0, 1) := by decide +kernel
theorem dX5_restore_11 : decode cX5_restore 11 = .ok (.getfield 38, 3) := by decide +kernel
theorem dX5_restore_14 : decode cX5_restore 14 = .ok (.aload_n 0, 1) := by decide +kernel
theorem dX5_restore_15 : decode cX5_restore 15 = .ok (.getfield 42, 3) := by decide +kernel
theorem dX5_restore_18 : decode cX5_restore 18 = .ok (.invokevirtual 224, 3) := by decide +kernel
theorem dX5_restore_21 : decode cX5_restore 21 = .ok (.aload_n 0, 1) := by decide +kernel
theorem dX5_restore_22 : decode cX5_restore 22 = .ok (.getfield 38, 3) := by decide +kernel
theorem dX5_restore_25 : decode cX5_restore 25 = .ok (.getfield 144, 3) := by decide +kernel
theorem dX5_restore_28 : decode cX5_restore 28 = .ok (.ireturn, 1) := by decide +kernel
theorem dX5_count_0 : decode cX5_count 0 = .ok (.iload_n 1, 1) := by decide +kernel
theorem dX5_count_1 : decode cX5_count 1 = .ok (.tableswitch 178 0 9 #[55, 71, 87, 95, 103, 125, 155, 163, 168, 173], 55) := by decide +kernel
theorem dX5_count_56 : decode cX5_count 56 = .ok (.aload_n 0, 1) := by decide +kernel
theorem dX5_count_57 : decode cX5_count 57 = .ok (.getfield 10, 3) := by decide +kernel
theorem dX5_count_60 : decode cX5_count 60 = .ok (.aload_n 0, 1) := by decide +kernel
theorem dX5_count_61 : decode cX5_count 61 = .ok (.getfield 38, 3) := by decide +kernel
theorem dX5_count_64 : decode cX5_count 64 = .ok (.getfield 82, 3) := by decide +kernel
theorem dX5_count_67 : decode cX5_count 67 = .ok (.iconst 5, 1) := by decide +kernel
theorem dX5_count_68 : decode cX5_count 68 = .ok (.invokevirtual 85, 3) := by decide +kernel
theorem dX5_count_71 : decode cX5_count 71 = .ok (.ireturn, 1) := by decide +kernel
theorem dX5_count_72 : decode cX5_count 72 = .ok (.aload_n 0, 1) := by decide +kernel
theorem dX5_count_73 : decode cX5_count 73 = .ok (.getfield 10, 3) := by decide +kernel
theorem dX5_count_76 : decode cX5_count 76 = .ok (.aload_n 0, 1) := by decide +kernel
theorem dX5_count_77 : decode cX5_count 77 = .ok (.getfield 38, 3) := by decide +kernel
theorem dX5_count_80 : decode cX5_count 80 = .ok (.getfield 99, 3) := by decide +kernel
theorem dX5_count_83 : decode cX5_count 83 = .ok (.iconst 5, 1) := by decide +kernel
theorem dX5_count_84 : decode cX5_count 84 = .ok (.invokevirtual 85, 3) := by decide +kernel
theorem dX5_count_87 : decode cX5_count 87 = .ok (.ireturn, 1) := by decide +kernel
theorem dX5_count_88 : decode cX5_count 88 = .ok (.aload_n 0, 1) := by decide +kernel
theorem dX5_count_89 : decode cX5_count 89 = .ok (.getfield 38, 3) := by decide +kernel
theorem dX5_count_92 : decode cX5_count 92 = .ok (.getfield 144, 3) := by decide +kernel
theorem dX5_count_95 : decode cX5_count 95 = .ok (.ireturn, 1) := by decide +kernel
theorem dX5_count_96 : decode cX5_count 96 = .ok (.aload_n 0, 1) := by decide +kernel
theorem dX5_count_97 : decode cX5_count 97 = .ok (.getfield 38, 3) := by decide +kernel
theorem dX5_count_100 : decode cX5_count 100 = .ok (.getfield 150, 3) := by decide +kernel
theorem dX5_count_103 : decode cX5_count 103 = .ok (.ireturn, 1) := by decide +kernel
theorem dX5_count_104 : decode cX5_count 104 = .ok (.aload_n 0, 1) := by decide +kernel
theorem dX5_count_105 : decode cX5_count 105 = .ok (.getfield 10, 3) := by decide +kernel
theorem dX5_count_108 : decode cX5_count 108 = .ok (.aload_n 0, 1) := by decide +kernel
theorem dX5_count_109 : decode cX5_count 109 = .ok (.getfield 38, 3) := by decide +kernel
theorem dX5_count_112 : decode cX5_count 112 = .ok (.getfield 82, 3) := by decide +kernel
theorem dX5_count_115 : decode cX5_count 115 = .ok (.aload_n 0, 1) := by decide +kernel
theorem dX5_count_116 : decode cX5_count 116 = .ok (.getfield 38, 3) := by decide +kernel
theorem dX5_count_119 : decode cX5_count 119 = .ok (.getfield 93, 3) := by decide +kernel
theorem dX5_count_122 : decode cX5_count 122 = .ok (.invokevirtual 211, 3) := by decide +kernel
theorem dX5_count_125 : decode cX5_count 125 = .ok (.ireturn, 1) := by decide +kernel
theorem dX5_count_126 : decode cX5_count 126 = .ok (.aload_n 0, 1) := by decide +kernel
theorem dX5_count_127 : decode cX5_count 127 = .ok (.invokevirtual 159, 3) := by decide +kernel
theorem dX5_count_130 : decode cX5_count 130 = .ok (.ifCond .eq 24, 3) := by decide +kernel
theorem dX5_count_133 : decode cX5_count 133 = .ok (.aload_n 0, 1) := by decide +kernel
theorem dX5_count_134 : decode cX5_count 134 = .ok (.aload_n 0, 1) := by decide +kernel
theorem dX5_count_135 : decode cX5_count 135 = .ok (.getfield 38, 3) := by decide +kernel
theorem dX5_count_138 : decode cX5_count 138 = .ok (.getfield 82, 3) := by decide +kernel
theorem dX5_count_141 : decode cX5_count 141 = .ok (.aload_n 0, 1) := by decide +kernel
theorem dX5_count_142 : decode cX5_count 142 = .ok (.getfield 38, 3) := by decide +kernel
theorem dX5_count_145 : decode cX5_count 145 = .ok (.getfield 99, 3) := by decide +kernel
theorem dX5_count_148 : decode cX5_count 148 = .ok (.invokevirtual 221, 3) := by decide +kernel
theorem dX5_count_151 : decode cX5_count 151 = .ok (.goto 4, 3) := by decide +kernel
theorem dX5_count_154 : decode cX5_count 154 = .ok (.iconst 0, 1) := by decide +kernel
theorem dX5_count_155 : decode cX5_count 155 = .ok (.ireturn, 1) := by decide +kernel
theorem dX5_count_156 : decode cX5_count 156 = .ok (.aload_n 0, 1) := by decide +kernel
theorem dX5_count_157 : decode cX5_count 157 = .ok (.getfield 38, 3) := by decide +kernel
theorem dX5_count_160 : decode cX5_count 160 = .ok (.getfield 199, 3) := by decide +kernel
theorem dX5_count_163 : decode cX5_count 163 = .ok (.ireturn, 1) := by decide +kernel
theorem dX5_count_164 : decode cX5_count 164 = .ok (.aload_n 0, 1) := by decide +kernel
theorem dX5_count_165 : decode cX5_count 165 = .ok (.getfield 56, 3) := by decide +kernel
theorem dX5_count_168 : decode cX5_count 168 = .ok (.ireturn, 1) := by decide +kernel
theorem dX5_count_169 : decode cX5_count 169 = .ok (.aload_n 0, 1) := by decide +kernel
theorem dX5_count_170 : decode cX5_count 170 = .ok (.getfield 79, 3) := by decide +kernel
theorem dX5_count_173 : decode cX5_count 173 = .ok (.ireturn, 1) := by decide +kernel
theorem dX5_count_174 : decode cX5_count 174 = .ok (.aload_n 0, 1) := by decide +kernel
theorem dX5_count_175 : decode cX5_count 175 = .ok (.getfield 181, 3) := by decide +kernel
theorem dX5_count_178 : decode cX5_count 178 = .ok (.ireturn, 1) := by decide +kernel
theorem dX5_count_179 : decode cX5_count 179 = .ok (.bipush (-102), 2) := by decide +kernel
theorem dX5_count_181 : decode cX5_count 181 = .ok (.ireturn, 1) := by decide +kernel
theorem dX5_digest_0 : decode cX5_digest 0 = .ok (.ldc2_w 228, 3) := by decide +kernel
theorem dX5_digest_3 : decode cX5_digest 3 = .ok (.lstore_n 1, 1) := by decide +kernel
theorem dX5_digest_4 : decode cX5_digest 4 = .ok (.aload_n 0, 1) := by decide +kernel
theorem dX5_digest_5 : decode cX5_digest 5 = .ok (.invokevirtual 159, 3) := by decide +kernel
theorem dX5_digest_8 : decode cX5_digest 8 = .ok (.ifCond .eq 21, 3) := by decide +kernel
theorem dX5_digest_11 : decode cX5_digest 11 = .ok (.aload_n 0, 1) := by decide +kernel
theorem dX5_digest_12 : decode cX5_digest 12 = .ok (.lload_n 1, 1) := by decide +kernel
theorem dX5_digest_13 : decode cX5_digest 13 = .ok (.invokevirtual 230, 3) := by decide +kernel
theorem dX5_digest_16 : decode cX5_digest 16 = .ok (.lstore_n 1, 1) := by decide +kernel
theorem dX5_digest_17 : decode cX5_digest 17 = .ok (.aload_n 0, 1) := by decide +kernel
theorem dX5_digest_18 : decode cX5_digest 18 = .ok (.lload_n 1, 1) := by decide +kernel
theorem dX5_digest_19 : decode cX5_digest 19 = .ok (.invokevirtual 234, 3) := by decide +kernel
theorem dX5_digest_22 : decode cX5_digest 22 = .ok (.lstore_n 1, 1) := by decide +kernel
theorem dX5_digest_23 : decode cX5_digest 23 = .ok (.aload_n 0, 1) := by decide +kernel
theorem dX5_digest_24 : decode cX5_digest 24 = .ok (.lload_n 1, 1) := by decide +kernel
theorem dX5_digest_25 : decode cX5_digest 25 = .ok (.invokevirtual 237, 3) := by decide +kernel
theorem dX5_digest_28 : decode cX5_digest 28 = .ok (.lstore_n 1, 1) := by decide +kernel
theorem dX5_digest_29 : decode cX5_digest 29 = .ok (.iconst 0, 1) := by decide +kernel
theorem dX5_digest_30 : decode cX5_digest 30 = .ok (.istore_n 3, 1) := by decide +kernel
theorem dX5_digest_31 : decode cX5_digest 31 = .ok (.iload_n 3, 1) := by decide +kernel
theorem dX5_digest_32 : decode cX5_digest 32 = .ok (.aload_n 0, 1) := by decide +kernel
theorem dX5_digest_33 : decode cX5_digest 33 = .ok (.getfield 56, 3) := by decide +kernel
theorem dX5_digest_36 : decode cX5_digest 36 = .ok (.if_icmp .ge 27, 3) := by decide +kernel
theorem dX5_digest_39 : decode cX5_digest 39 = .ok (.iload_n 3, 1) := by decide +kernel
theorem dX5_digest_40 : decode cX5_digest 40 = .ok (.bipush 22, 2) := by decide +kernel
theorem dX5_digest_42 : decode cX5_digest 42 = .ok (.if_icmp .ge 21, 3) := by decide +kernel
theorem dX5_digest_45 : decode cX5_digest 45 = .ok (.lload_n 1, 1) := by decide +kernel
theorem dX5_digest_46 : decode cX5_digest 46 = .ok (.aload_n 0, 1) := by decide +kernel
theorem dX5_digest_47 : decode cX5_digest 47 = .ok (.getfield 45, 3) := by decide +kernel
theorem dX5_digest_50 : decode cX5_digest 50 = .ok (.iload_n 3, 1) := by decide +kernel
theorem dX5_digest_51 : decode cX5_digest 51 = .ok (.iaload, 1) := by decide +kernel
theorem dX5_digest_52 : decode cX5_digest 52 = .ok (.i2l, 1) := by decide +kernel
theorem dX5_digest_53 : decode cX5_digest 53 = .ok (.invokestatic 240, 3) := by decide +kernel
theorem dX5_digest_56 : decode cX5_digest 56 = .ok (.lstore_n 1, 1) := by decide +kernel
theorem dX5_digest_57 : decode cX5_digest 57 = .ok (.iinc 3 1, 3) := by decide +kernel
theorem dX5_digest_60 : decode cX5_digest 60 = .ok (.goto (-29), 3) := by decide +kernel
theorem dX5_digest_63 : decode cX5_digest 63 = .ok (.iconst 0, 1) := by decide +kernel
theorem dX5_digest_64 : decode cX5_digest 64 = .ok (.istore_n 3, 1) := by decide +kernel
theorem dX5_digest_65 : decode cX5_digest 65 = .ok (.iload_n 3, 1) := by decide +kernel
theorem dX5_digest_66 : decode cX5_digest 66 = .ok (.bipush 9, 2) := by decide +kernel
theorem dX5_digest_68 : decode cX5_digest 68 = .ok (.if_icmp .gt 20, 3) := by decide +kernel
theorem dX5_digest_71 : decode cX5_digest 71 = .ok (.lload_n 1, 1) := by decide +kernel
theorem dX5_digest_72 : decode cX5_digest 72 = .ok (.aload_n 0, 1) := by decide +kernel
theorem dX5_digest_73 : decode cX5_digest 73 = .ok (.iload_n 3, 1) := by decide +kernel
theorem dX5_digest_74 : decode cX5_digest 74 = .ok (.invokevirtual 244, 3) := by decide +kernel
theorem dX5_digest_77 : decode cX5_digest 77 = .ok (.i2l, 1) := by decide +kernel
theorem dX5_digest_78 : decode cX5_digest 78 = .ok (.invokestatic 240, 3) := by decide +kernel
theorem dX5_digest_81 : decode cX5_digest 81 = .ok (.lstore_n 1, 1) := by decide +kernel
theorem dX5_digest_82 : decode cX5_digest 82 = .ok (.iinc 3 1, 3) := by decide +kernel
theorem dX5_digest_85 : decode cX5_digest 85 = .ok (.goto (-20), 3) := by decide +kernel
theorem dX5_digest_88 : decode cX5_digest 88 = .ok (.lload_n 1, 1) := by decide +kernel
theorem dX5_digest_89 : decode cX5_digest 89 = .ok (.lreturn, 1) := by decide +kernel
theorem dX5_mixTiles_0 : decode cX5_mixTiles 0 = .ok (.lload_n 1, 1) := by decide +kernel
theorem dX5_mixTiles_1 : decode cX5_mixTiles 1 = .ok (.lstore_n 3, 1) := by decide +kernel
theorem dX5_mixTiles_2 : decode cX5_mixTiles 2 = .ok (.iconst 0, 1) := by decide +kernel
theorem dX5_mixTiles_3 : decode cX5_mixTiles 3 = .ok (.istore 5, 2) := by decide +kernel
theorem dX5_mixTiles_5 : decode cX5_mixTiles 5 = .ok (.iload 5, 2) := by decide +kernel
theorem dX5_mixTiles_7 : decode cX5_mixTiles 7 = .ok (.iconst 5, 1) := by decide +kernel
theorem dX5_mixTiles_8 : decode cX5_mixTiles 8 = .ok (.if_icmp .ge 82, 3) := by decide +kernel
theorem dX5_mixTiles_11 : decode cX5_mixTiles 11 = .ok (.iconst 0, 1) := by decide +kernel
theorem dX5_mixTiles_12 : decode cX5_mixTiles 12 = .ok (.istore 6, 2) := by decide +kernel
theorem dX5_mixTiles_14 : decode cX5_mixTiles 14 = .ok (.iload 6, 2) := by decide +kernel
theorem dX5_mixTiles_16 : decode cX5_mixTiles 16 = .ok (.bipush 6, 2) := by decide +kernel
theorem dX5_mixTiles_18 : decode cX5_mixTiles 18 = .ok (.if_icmp .gt 23, 3) := by decide +kernel
theorem dX5_mixTiles_21 : decode cX5_mixTiles 21 = .ok (.lload_n 3, 1) := by decide +kernel
theorem dX5_mixTiles_22 : decode cX5_mixTiles 22 = .ok (.aload_n 0, 1) := by decide +kernel
theorem dX5_mixTiles_23 : decode cX5_mixTiles 23 = .ok (.iload 5, 2) := by decide +kernel
theorem dX5_mixTiles_25 : decode cX5_mixTiles 25 = .ok (.iload 6, 2) := by decide +kernel
theorem dX5_mixTiles_27 : decode cX5_mixTiles 27 = .ok (.invokevirtual 247, 3) := by decide +kernel
theorem dX5_mixTiles_30 : decode cX5_mixTiles 30 = .ok (.i2l, 1) := by decide +kernel
theorem dX5_mixTiles_31 : decode cX5_mixTiles 31 = .ok (.invokestatic 240, 3) := by decide +kernel
theorem dX5_mixTiles_34 : decode cX5_mixTiles 34 = .ok (.lstore_n 3, 1) := by decide +kernel
theorem dX5_mixTiles_35 : decode cX5_mixTiles 35 = .ok (.iinc 6 1, 3) := by decide +kernel
theorem dX5_mixTiles_38 : decode cX5_mixTiles 38 = .ok (.goto (-24), 3) := by decide +kernel
theorem dX5_mixTiles_41 : decode cX5_mixTiles 41 = .ok (.lload_n 3, 1) := by decide +kernel
theorem dX5_mixTiles_42 : decode cX5_mixTiles 42 = .ok (.aload_n 0, 1) := by decide +kernel
theorem dX5_mixTiles_43 : decode cX5_mixTiles 43 = .ok (.iload 5, 2) := by decide +kernel
theorem dX5_mixTiles_45 : decode cX5_mixTiles 45 = .ok (.iconst 0, 1) := by decide +kernel
theorem dX5_mixTiles_46 : decode cX5_mixTiles 46 = .ok (.invokevirtual 250, 3) := by decide +kernel
theorem dX5_mixTiles_49 : decode cX5_mixTiles 49 = .ok (.i2l, 1) := by decide +kernel
theorem dX5_mixTiles_50 : decode cX5_mixTiles 50 = .ok (.invokestatic 240, 3) := by decide +kernel
theorem dX5_mixTiles_53 : decode cX5_mixTiles 53 = .ok (.lstore_n 3, 1) := by decide +kernel
theorem dX5_mixTiles_54 : decode cX5_mixTiles 54 = .ok (.lload_n 3, 1) := by decide +kernel
theorem dX5_mixTiles_55 : decode cX5_mixTiles 55 = .ok (.aload_n 0, 1) := by decide +kernel
theorem dX5_mixTiles_56 : decode cX5_mixTiles 56 = .ok (.iload 5, 2) := by decide +kernel
theorem dX5_mixTiles_58 : decode cX5_mixTiles 58 = .ok (.iconst 4, 1) := by decide +kernel
theorem dX5_mixTiles_59 : decode cX5_mixTiles 59 = .ok (.iconst 3, 1) := by decide +kernel
theorem dX5_mixTiles_60 : decode cX5_mixTiles 60 = .ok (.iconst 0, 1) := by decide +kernel
theorem dX5_mixTiles_61 : decode cX5_mixTiles 61 = .ok (.invokevirtual 253, 3) := by decide +kernel
theorem dX5_mixTiles_64 : decode cX5_mixTiles 64 = .ok (.i2l, 1) := by decide +kernel
theorem dX5_mixTiles_65 : decode cX5_mixTiles 65 = .ok (.invokestatic 240, 3) := by decide +kernel
theorem dX5_mixTiles_68 : decode cX5_mixTiles 68 = .ok (.lstore_n 3, 1) := by decide +kernel
theorem dX5_mixTiles_69 : decode cX5_mixTiles 69 = .ok (.lload_n 3, 1) := by decide +kernel
theorem dX5_mixTiles_70 : decode cX5_mixTiles 70 = .ok (.aload_n 0, 1) := by decide +kernel
theorem dX5_mixTiles_71 : decode cX5_mixTiles 71 = .ok (.iload 5, 2) := by decide +kernel
theorem dX5_mixTiles_73 : decode cX5_mixTiles 73 = .ok (.iconst 4, 1) := by decide +kernel
theorem dX5_mixTiles_74 : decode cX5_mixTiles 74 = .ok (.iconst 3, 1) := by decide +kernel
theorem dX5_mixTiles_75 : decode cX5_mixTiles 75 = .ok (.iconst 1, 1) := by decide +kernel
theorem dX5_mixTiles_76 : decode cX5_mixTiles 76 = .ok (.invokevirtual 253, 3) := by decide +kernel
theorem dX5_mixTiles_79 : decode cX5_mixTiles 79 = .ok (.i2l, 1) := by decide +kernel
theorem dX5_mixTiles_80 : decode cX5_mixTiles 80 = .ok (.invokestatic 240, 3) := by decide +kernel
theorem dX5_mixTiles_83 : decode cX5_mixTiles 83 = .ok (.lstore_n 3, 1) := by decide +kernel
theorem dX5_mixTiles_84 : decode cX5_mixTiles 84 = .ok (.iinc 5 1, 3) := by decide +kernel
theorem dX5_mixTiles_87 : decode cX5_mixTiles 87 = .ok (.goto (-82), 3) := by decide +kernel
theorem dX5_mixTiles_90 : decode cX5_mixTiles 90 = .ok (.lload_n 3, 1) := by decide +kernel
theorem dX5_mixTiles_91 : decode cX5_mixTiles 91 = .ok (.lreturn, 1) := by decide +kernel
theorem dX5_mixCells_0 : decode cX5_mixCells 0 = .ok (.lload_n 1, 1) := by decide +kernel
theorem dX5_mixCells_1 : decode cX5_mixCells 1 = .ok (.lstore_n 3, 1) := by decide +kernel
theorem dX5_mixCells_2 : decode cX5_mixCells 2 = .ok (.iconst 0, 1) := by decide +kernel
theorem dX5_mixCells_3 : decode cX5_mixCells 3 = .ok (.istore 5, 2) := by decide +kernel
theorem dX5_mixCells_5 : decode cX5_mixCells 5 = .ok (.iload 5, 2) := by decide +kernel
theorem dX5_mixCells_7 : decode cX5_mixCells 7 = .ok (.bipush 6, 2) := by decide +kernel
theorem dX5_mixCells_9 : decode cX5_mixCells 9 = .ok (.if_icmp .ge 38, 3) := by decide +kernel
theorem dX5_mixCells_12 : decode cX5_mixCells 12 = .ok (.iconst 0, 1) := by decide +kernel
theorem dX5_mixCells_13 : decode cX5_mixCells 13 = .ok (.istore 6, 2) := by decide +kernel
theorem dX5_mixCells_15 : decode cX5_mixCells 15 = .ok (.iload 6, 2) := by decide +kernel
theorem dX5_mixCells_17 : decode cX5_mixCells 17 = .ok (.iconst 2, 1) := by decide +kernel
theorem dX5_mixCells_18 : decode cX5_mixCells 18 = .ok (.if_icmp .gt 23, 3) := by decide +kernel
theorem dX5_mixCells_21 : decode cX5_mixCells 21 = .ok (.lload_n 3, 1) := by decide +kernel
theorem dX5_mixCells_22 : decode cX5_mixCells 22 = .ok (.aload_n 0, 1) := by decide +kernel
theorem dX5_mixCells_23 : decode cX5_mixCells 23 = .ok (.iload 5, 2) := by decide +kernel
theorem dX5_mixCells_25 : decode cX5_mixCells 25 = .ok (.iload 6, 2) := by decide +kernel
theorem dX5_mixCells_27 : decode cX5_mixCells 27 = .ok (.invokevirtual 257, 3) := by decide +kernel
theorem dX5_mixCells_30 : decode cX5_mixCells 30 = .ok (.i2l, 1) := by decide +kernel
theorem dX5_mixCells_31 : decode cX5_mixCells 31 = .ok (.invokestatic 240, 3) := by decide +kernel
theorem dX5_mixCells_34 : decode cX5_mixCells 34 = .ok (.lstore_n 3, 1) := by decide +kernel
theorem dX5_mixCells_35 : decode cX5_mixCells 35 = .ok (.iinc 6 1, 3) := by decide +kernel
theorem dX5_mixCells_38 : decode cX5_mixCells 38 = .ok (.goto (-23), 3) := by decide +kernel
theorem dX5_mixCells_41 : decode cX5_mixCells 41 = .ok (.iinc 5 1, 3) := by decide +kernel
theorem dX5_mixCells_44 : decode cX5_mixCells 44 = .ok (.goto (-39), 3) := by decide +kernel
theorem dX5_mixCells_47 : decode cX5_mixCells 47 = .ok (.lload_n 3, 1) := by decide +kernel
theorem dX5_mixCells_48 : decode cX5_mixCells 48 = .ok (.lreturn, 1) := by decide +kernel
theorem dX5_mixCosts_0 : decode cX5_mixCosts 0 = .ok (.lload_n 1, 1) := by decide +kernel
theorem dX5_mixCosts_1 : decode cX5_mixCosts 1 = .ok (.lstore_n 3, 1) := by decide +kernel
theorem dX5_mixCosts_2 : decode cX5_mixCosts 2 = .ok (.iconst 0, 1) := by decide +kernel
theorem dX5_mixCosts_3 : decode cX5_mixCosts 3 = .ok (.istore 5, 2) := by decide +kernel
theorem dX5_mixCosts_5 : decode cX5_mixCosts 5 = .ok (.iload 5, 2) := by decide +kernel
theorem dX5_mixCosts_7 : decode cX5_mixCosts 7 = .ok (.iconst 2, 1) := by decide +kernel
theorem dX5_mixCosts_8 : decode cX5_mixCosts 8 = .ok (.if_icmp .gt 21, 3) := by decide +kernel
theorem dX5_mixCosts_11 : decode cX5_mixCosts 11 = .ok (.lload_n 3, 1) := by decide +kernel
theorem dX5_mixCosts_12 : decode cX5_mixCosts 12 = .ok (.aload_n 0, 1) := by decide +kernel
theorem dX5_mixCosts_13 : decode cX5_mixCosts 13 = .ok (.iload 5, 2) := by decide +kernel
theorem dX5_mixCosts_15 : decode cX5_mixCosts 15 = .ok (.invokevirtual 260, 3) := by decide +kernel
theorem dX5_mixCosts_18 : decode cX5_mixCosts 18 = .ok (.i2l, 1) := by decide +kernel
theorem dX5_mixCosts_19 : decode cX5_mixCosts 19 = .ok (.invokestatic 240, 3) := by decide +kernel
theorem dX5_mixCosts_22 : decode cX5_mixCosts 22 = .ok (.lstore_n 3, 1) := by decide +kernel
theorem dX5_mixCosts_23 : decode cX5_mixCosts 23 = .ok (.iinc 5 1, 3) := by decide +kernel
theorem dX5_mixCosts_26 : decode cX5_mixCosts 26 = .ok (.goto (-21), 3) := by decide +kernel
theorem dX5_mixCosts_29 : decode cX5_mixCosts 29 = .ok (.lload_n 3, 1) := by decide +kernel
theorem dX5_mixCosts_30 : decode cX5_mixCosts 30 = .ok (.aload_n 0, 1) := by decide +kernel
theorem dX5_mixCosts_31 : decode cX5_mixCosts 31 = .ok (.iconst 0, 1) := by decide +kernel
theorem dX5_mixCosts_32 : decode cX5_mixCosts 32 = .ok (.invokevirtual 263, 3) := by decide +kernel
theorem dX5_mixCosts_35 : decode cX5_mixCosts 35 = .ok (.i2l, 1) := by decide +kernel
theorem dX5_mixCosts_36 : decode cX5_mixCosts 36 = .ok (.invokestatic 240, 3) := by decide +kernel
theorem dX5_mixCosts_39 : decode cX5_mixCosts 39 = .ok (.lstore_n 3, 1) := by decide +kernel
theorem dX5_mixCosts_40 : decode cX5_mixCosts 40 = .ok (.lload_n 3, 1) := by decide +kernel
theorem dX5_mixCosts_41 : decode cX5_mixCosts 41 = .ok (.aload_n 0, 1) := by decide +kernel
theorem dX5_mixCosts_42 : decode cX5_mixCosts 42 = .ok (.iconst 1, 1) := by decide +kernel
theorem dX5_mixCosts_43 : decode cX5_mixCosts 43 = .ok (.invokevirtual 263, 3) := by decide +kernel
theorem dX5_mixCosts_46 : decode cX5_mixCosts 46 = .ok (.i2l, 1) := by decide +kernel
theorem dX5_mixCosts_47 : decode cX5_mixCosts 47 = .ok (.invokestatic 240, 3) := by decide +kernel
theorem dX5_mixCosts_50 : decode cX5_mixCosts 50 = .ok (.lstore_n 3, 1) := by decide +kernel
theorem dX5_mixCosts_51 : decode cX5_mixCosts 51 = .ok (.lload_n 3, 1) := by decide +kernel
theorem dX5_mixCosts_52 : decode cX5_mixCosts 52 = .ok (.aload_n 0, 1) := by decide +kernel
theorem dX5_mixCosts_53 : decode cX5_mixCosts 53 = .ok (.invokevirtual 266, 3) := by decide +kernel
theorem dX5_mixCosts_56 : decode cX5_mixCosts 56 = .ok (.i2l, 1) := by decide +kernel
theorem dX5_mixCosts_57 : decode cX5_mixCosts 57 = .ok (.invokestatic 240, 3) := by decide +kernel
theorem dX5_mixCosts_60 : decode cX5_mixCosts 60 = .ok (.lreturn, 1) := by decide +kernel
theorem dX5_mix_0 : decode cX5_mix 0 = .ok (.ldc2_w 269, 3) := by decide +kernel
theorem dX5_mix_3 : decode cX5_mix 3 = .ok (.lload_n 0, 1) := by decide +kernel
theorem dX5_mix_4 : decode cX5_mix 4 = .ok (.lmul, 1) := by decide +kernel
theorem dX5_mix_5 : decode cX5_mix 5 = .ok (.lload_n 2, 1) := by decide +kernel
theorem dX5_mix_6 : decode cX5_mix 6 = .ok (.ladd, 1) := by decide +kernel
theorem dX5_mix_7 : decode cX5_mix 7 = .ok (.lreturn, 1) := by decide +kernel
theorem dX5_isWithin_0 : decode cX5_isWithin 0 = .ok (.iload_n 0, 1) := by decide +kernel
theorem dX5_isWithin_1 : decode cX5_isWithin 1 = .ok (.iload_n 1, 1) := by decide +kernel
theorem dX5_isWithin_2 : decode cX5_isWithin 2 = .ok (.if_icmp .lt 12, 3) := by decide +kernel
theorem dX5_isWithin_5 : decode cX5_isWithin 5 = .ok (.iload_n 0, 1) := by decide +kernel
theorem dX5_isWithin_6 : decode cX5_isWithin 6 = .ok (.iload_n 2, 1) := by decide +kernel
theorem dX5_isWithin_7 : decode cX5_isWithin 7 = .ok (.if_icmp .gt 7, 3) := by decide +kernel
theorem dX5_isWithin_10 : decode cX5_isWithin 10 = .ok (.iconst 1, 1) := by decide +kernel
theorem dX5_isWithin_11 : decode cX5_isWithin 11 = .ok (.goto 4, 3) := by decide +kernel
theorem dX5_isWithin_14 : decode cX5_isWithin 14 = .ok (.iconst 0, 1) := by decide +kernel
theorem dX5_isWithin_15 : decode cX5_isWithin 15 = .ok (.ireturn, 1) := by decide +kernel
theorem dX5_isKind_0 : decode cX5_isKind 0 = .ok (.iload_n 0, 1) := by decide +kernel
theorem dX5_isKind_1 : decode cX5_isKind 1 = .ok (.iconst 0, 1) := by decide +kernel
theorem dX5_isKind_2 : decode cX5_isKind 2 = .ok (.getstatic 122, 3) := by decide +kernel
theorem dX5_isKind_5 : decode cX5_isKind 5 = .ok (.arraylength, 1) := by decide +kernel
theorem dX5_isKind_6 : decode cX5_isKind 6 = .ok (.iconst 1, 1) := by decide +kernel
theorem dX5_isKind_7 : decode cX5_isKind 7 = .ok (.isub, 1) := by decide +kernel
theorem dX5_isKind_8 : decode cX5_isKind 8 = .ok (.invokestatic 52, 3) := by decide +kernel
theorem dX5_isKind_11 : decode cX5_isKind 11 = .ok (.ireturn, 1) := by decide +kernel
theorem dX5_hasTray_0 : decode cX5_hasTray 0 = .ok (.aload_n 0, 1) := by decide +kernel
theorem dX5_hasTray_1 : decode cX5_hasTray 1 = .ok (.getfield 38, 3) := by decide +kernel
theorem dX5_hasTray_4 : decode cX5_hasTray 4 = .ok (.getfield 82, 3) := by decide +kernel
theorem dX5_hasTray_7 : decode cX5_hasTray 7 = .ok (.iconst (-1), 1) := by decide +kernel
theorem dX5_hasTray_8 : decode cX5_hasTray 8 = .ok (.if_icmp .eq 7, 3) := by decide +kernel
theorem dX5_hasTray_11 : decode cX5_hasTray 11 = .ok (.iconst 1, 1) := by decide +kernel
theorem dX5_hasTray_12 : decode cX5_hasTray 12 = .ok (.goto 4, 3) := by decide +kernel
theorem dX5_hasTray_15 : decode cX5_hasTray 15 = .ok (.iconst 0, 1) := by decide +kernel
theorem dX5_hasTray_16 : decode cX5_hasTray 16 = .ok (.ireturn, 1) := by decide +kernel
theorem dX5_isTile_0 : decode cX5_isTile 0 = .ok (.aload_n 0, 1) := by decide +kernel
theorem dX5_isTile_1 : decode cX5_isTile 1 = .ok (.invokevirtual 159, 3) := by decide +kernel
theorem dX5_isTile_4 : decode cX5_isTile 4 = .ok (.ifCond .eq 16, 3) := by decide +kernel
theorem dX5_isTile_7 : decode cX5_isTile 7 = .ok (.iload_n 1, 1) := by decide +kernel
theorem dX5_isTile_8 : decode cX5_isTile 8 = .ok (.iconst 0, 1) := by decide +kernel
theorem dX5_isTile_9 : decode cX5_isTile 9 = .ok (.iconst 4, 1) := by decide +kernel
theorem dX5_isTile_10 : decode cX5_isTile 10 = .ok (.invokestatic 52, 3) := by decide +kernel
theorem dX5_isTile_13 : decode cX5_isTile 13 = .ok (.ifCond .eq 7, 3) := by decide +kernel
theorem dX5_isTile_16 : decode cX5_isTile 16 = .ok (.iconst 1, 1) := by decide +kernel
theorem dX5_isTile_17 : decode cX5_isTile 17 = .ok (.goto 4, 3) := by decide +kernel
theorem dX5_isTile_20 : decode cX5_isTile 20 = .ok (.iconst 0, 1) := by decide +kernel
theorem dX5_isTile_21 : decode cX5_isTile 21 = .ok (.ireturn, 1) := by decide +kernel
theorem dX5_isCell_0 : decode cX5_isCell 0 = .ok (.aload_n 0, 1) := by decide +kernel
theorem dX5_isCell_1 : decode cX5_isCell 1 = .ok (.invokevirtual 159, 3) := by decide +kernel
theorem dX5_isCell_4 : decode cX5_isCell 4 = .ok (.ifCond .eq 16, 3) := by decide +kernel
theorem dX5_isCell_7 : decode cX5_isCell 7 = .ok (.iload_n 1, 1) := by decide +kernel
theorem dX5_isCell_8 : decode cX5_isCell 8 = .ok (.iconst 0, 1) := by decide +kernel
theorem dX5_isCell_9 : decode cX5_isCell 9 = .ok (.iconst 5, 1) := by decide +kernel
theorem dX5_isCell_10 : decode cX5_isCell 10 = .ok (.invokestatic 52, 3) := by decide +kernel
theorem dX5_isCell_13 : decode cX5_isCell 13 = .ok (.ifCond .eq 7, 3) := by decide +kernel
theorem dX5_isCell_16 : decode cX5_isCell 16 = .ok (.iconst 1, 1) := by decide +kernel
theorem dX5_isCell_17 : decode cX5_isCell 17 = .ok (.goto 4, 3) := by decide +kernel
theorem dX5_isCell_20 : decode cX5_isCell 20 = .ok (.iconst 0, 1) := by decide +kernel
theorem dX5_isCell_21 : decode cX5_isCell 21 = .ok (.ireturn, 1) := by decide +kernel
theorem dX5_tileOrNone_0 : decode cX5_tileOrNone 0 = .ok (.iload_n 0, 1) := by decide +kernel
theorem dX5_tileOrNone_1 : decode cX5_tileOrNone 1 = .ok (.iconst 5, 1) := by decide +kernel
theorem dX5_tileOrNone_2 : decode cX5_tileOrNone 2 = .ok (.if_icmp .ne 7, 3) := by decide +kernel
theorem dX5_tileOrNone_5 : decode cX5_tileOrNone 5 = .ok (.iconst (-1), 1) := by decide +kernel
theorem dX5_tileOrNone_6 : decode cX5_tileOrNone 6 = .ok (.goto 4, 3) := by decide +kernel
theorem dX5_tileOrNone_9 : decode cX5_tileOrNone 9 = .ok (.iload_n 0, 1) := by decide +kernel
theorem dX5_tileOrNone_10 : decode cX5_tileOrNone 10 = .ok (.ireturn, 1) := by decide +kernel
theorem dX5_areNext_0 : decode cX5_areNext 0 = .ok (.iload_n 0, 1) := by decide +kernel
theorem dX5_areNext_1 : decode cX5_areNext 1 = .ok (.iload_n 1, 1) := by decide +kernel
theorem dX5_areNext_2 : decode cX5_areNext 2 = .ok (.isub, 1) := by decide +kernel
theorem dX5_areNext_3 : decode cX5_areNext 3 = .ok (.invokestatic 271, 3) := by decide +kernel
theorem dX5_areNext_6 : decode cX5_areNext 6 = .ok (.istore_n 2, 1) := by decide +kernel
theorem dX5_areNext_7 : decode cX5_areNext 7 = .ok (.iload_n 2, 1) := by decide +kernel
theorem dX5_areNext_8 : decode cX5_areNext 8 = .ok (.iconst 3, 1) := by decide +kernel
theorem dX5_areNext_9 : decode cX5_areNext 9 = .ok (.if_icmp .eq 16, 3) := by decide +kernel
theorem dX5_areNext_12 : decode cX5_areNext 12 = .ok (.iload_n 2, 1) := by decide +kernel
theorem dX5_areNext_13 : decode cX5_areNext 13 = .ok (.iconst 1, 1) := by decide +kernel
theorem dX5_areNext_14 : decode cX5_areNext 14 = .ok (.if_icmp .ne 15, 3) := by decide +kernel
theorem dX5_areNext_17 : decode cX5_areNext 17 = .ok (.iload_n 0, 1) := by decide +kernel
theorem dX5_areNext_18 : decode cX5_areNext 18 = .ok (.iload_n 1, 1) := by decide +kernel
theorem dX5_areNext_19 : decode cX5_areNext 19 = .ok (.invokestatic 274, 3) := by decide +kernel
theorem dX5_areNext_22 : decode cX5_areNext 22 = .ok (.ifCond .eq 7, 3) := by decide +kernel
theorem dX5_areNext_25 : decode cX5_areNext 25 = .ok (.iconst 1, 1) := by decide +kernel
theorem dX5_areNext_26 : decode cX5_areNext 26 = .ok (.goto 4, 3) := by decide +kernel
theorem dX5_areNext_29 : decode cX5_areNext 29 = .ok (.iconst 0, 1) := by decide +kernel
theorem dX5_areNext_30 : decode cX5_areNext 30 = .ok (.ireturn, 1) := by decide +kernel
theorem dX5_isOneRow_0 : decode cX5_isOneRow 0 = .ok (.iload_n 0, 1) := by decide +kernel
theorem dX5_isOneRow_1 : decode cX5_isOneRow 1 = .ok (.iconst 3, 1) := by decide +kernel
theorem dX5_isOneRow_2 : decode cX5_isOneRow 2 = .ok (.idiv, 1) := by decide +kernel
theorem dX5_isOneRow_3 : decode cX5_isOneRow 3 = .ok (.iload_n 1, 1) := by decide +kernel
theorem dX5_isOneRow_4 : decode cX5_isOneRow 4 = .ok (.iconst 3, 1) := by decide +kernel
theorem dX5_isOneRow_5 : decode cX5_isOneRow 5 = .ok (.idiv, 1) := by decide +kernel
theorem dX5_isOneRow_6 : decode cX5_isOneRow 6 = .ok (.if_icmp .ne 7, 3) := by decide +kernel
theorem dX5_isOneRow_9 : decode cX5_isOneRow 9 = .ok (.iconst 1, 1) := by decide +kernel
theorem dX5_isOneRow_10 : decode cX5_isOneRow 10 = .ok (.goto 4, 3) := by decide +kernel
theorem dX5_isOneRow_13 : decode cX5_isOneRow 13 = .ok (.iconst 0, 1) := by decide +kernel
theorem dX5_isOneRow_14 : decode cX5_isOneRow 14 = .ok (.ireturn, 1) := by decide +kernel
theorem dX5_kindOf_0 : decode cX5_kindOf 0 = .ok (.iload_n 0, 1) := by decide +kernel
theorem dX5_kindOf_1 : decode cX5_kindOf 1 = .ok (.iconst 3, 1) := by decide +kernel
theorem dX5_kindOf_2 : decode cX5_kindOf 2 = .ok (.iload_n 1, 1) := by decide +kernel
theorem dX5_kindOf_3 : decode cX5_kindOf 3 = .ok (.imul, 1) := by decide +kernel
theorem dX5_kindOf_4 : decode cX5_kindOf 4 = .ok (.ishr, 1) := by decide +kernel
theorem dX5_kindOf_5 : decode cX5_kindOf 5 = .ok (.bipush 7, 2) := by decide +kernel
theorem dX5_kindOf_7 : decode cX5_kindOf 7 = .ok (.iand, 1) := by decide +kernel
theorem dX5_kindOf_8 : decode cX5_kindOf 8 = .ok (.istore_n 2, 1) := by decide +kernel
theorem dX5_kindOf_9 : decode cX5_kindOf 9 = .ok (.iload_n 2, 1) := by decide +kernel
theorem dX5_kindOf_10 : decode cX5_kindOf 10 = .ok (.getstatic 122, 3) := by decide +kernel
theorem dX5_kindOf_13 : decode cX5_kindOf 13 = .ok (.arraylength, 1) := by decide +kernel
theorem dX5_kindOf_14 : decode cX5_kindOf 14 = .ok (.if_icmp .ge 7, 3) := by decide +kernel
theorem dX5_kindOf_17 : decode cX5_kindOf 17 = .ok (.iload_n 2, 1) := by decide +kernel
theorem dX5_kindOf_18 : decode cX5_kindOf 18 = .ok (.goto 4, 3) := by decide +kernel
theorem dX5_kindOf_21 : decode cX5_kindOf 21 = .ok (.iconst 0, 1) := by decide +kernel
theorem dX5_kindOf_22 : decode cX5_kindOf 22 = .ok (.ireturn, 1) := by decide +kernel
theorem dX5_withKind_0 : decode cX5_withKind 0 = .ok (.iload_n 0, 1) := by decide +kernel
theorem dX5_withKind_1 : decode cX5_withKind 1 = .ok (.bipush 7, 2) := by decide +kernel
theorem dX5_withKind_3 : decode cX5_withKind 3 = .ok (.iconst 3, 1) := by decide +kernel
theorem dX5_withKind_4 : decode cX5_withKind 4 = .ok (.iload_n 1, 1) := by decide +kernel
theorem dX5_withKind_5 : decode cX5_withKind 5 = .ok (.imul, 1) := by decide +kernel
theorem dX5_withKind_6 : decode cX5_withKind 6 = .ok (.ishl, 1) := by decide +kernel
theorem dX5_withKind_7 : decode cX5_withKind 7 = .ok (.iconst (-1), 1) := by decide +kernel
theorem dX5_withKind_8 : decode cX5_withKind 8 = .ok (.ixor, 1) := by decide +kernel
theorem dX5_withKind_9 : decode cX5_withKind 9 = .ok (.iand, 1) := by decide +kernel
theorem dX5_withKind_10 : decode cX5_withKind 10 = .ok (.iload_n 2, 1) := by decide +kernel
theorem dX5_withKind_11 : decode cX5_withKind 11 = .ok (.iconst 3, 1) := by decide +kernel
theorem dX5_withKind_12 : decode cX5_withKind 12 = .ok (.iload_n 1, 1) := by decide +kernel
theorem dX5_withKind_13 : decode cX5_withKind 13 = .ok (.imul, 1) := by decide +kernel
theorem dX5_withKind_14 : decode cX5_withKind 14 = .ok (.ishl, 1) := by decide +kernel
theorem dX5_withKind_15 : decode cX5_withKind 15 = .ok (.ior, 1) := by decide +kernel
theorem dX5_withKind_16 : decode cX5_withKind 16 = .ok (.ireturn, 1) := by decide +kernel
theorem dX5_kindByLetter_0 : decode cX5_kindByLetter 0 = .ok (.iconst 0, 1) := by decide +kernel
theorem dX5_kindByLetter_1 : decode cX5_kindByLetter 1 = .ok (.istore_n 1, 1) := by decide +kernel
theorem dX5_kindByLetter_2 : decode cX5_kindByLetter 2 = .ok (.iload_n 1, 1) := by decide +kernel
theorem dX5_kindByLetter_3 : decode cX5_kindByLetter 3 = .ok (.getstatic 122, 3) := by decide +kernel
theorem dX5_kindByLetter_6 : decode cX5_kindByLetter 6 = .ok (.arraylength, 1) := by decide +kernel
theorem dX5_kindByLetter_7 : decode cX5_kindByLetter 7 = .ok (.if_icmp .ge 23, 3) := by decide +kernel
theorem dX5_kindByLetter_10 : decode cX5_kindByLetter 10 = .ok (.getstatic 122, 3) := by decide +kernel
theorem dX5_kindByLetter_13 : decode cX5_kindByLetter 13 = .ok (.iload_n 1, 1) := by decide +kernel
theorem dX5_kindByLetter_14 : decode cX5_kindByLetter 14 = .ok (.aaload, 1) := by decide +kernel
theorem dX5_kindByLetter_15 : decode cX5_kindByLetter 15 = .ok (.getfield 277, 3) := by decide +kernel
theorem dX5_kindByLetter_18 : decode cX5_kindByLetter 18 = .ok (.iload_n 0, 1) := by decide +kernel
theorem dX5_kindByLetter_19 : decode cX5_kindByLetter 19 = .ok (.if_icmp .ne 5, 3) := by decide +kernel
theorem dX5_kindByLetter_22 : decode cX5_kindByLetter 22 = .ok (.iload_n 1, 1) := by decide +kernel
theorem dX5_kindByLetter_23 : decode cX5_kindByLetter 23 = .ok (.ireturn, 1) := by decide +kernel
theorem dX5_kindByLetter_24 : decode cX5_kindByLetter 24 = .ok (.iinc 1 1, 3) := by decide +kernel
theorem dX5_kindByLetter_27 : decode cX5_kindByLetter 27 = .ok (.goto (-25), 3) := by decide +kernel
theorem dX5_kindByLetter_30 : decode cX5_kindByLetter 30 = .ok (.iconst (-1), 1) := by decide +kernel
theorem dX5_kindByLetter_31 : decode cX5_kindByLetter 31 = .ok (.ireturn, 1) := by decide +kernel
theorem dX5_firstWrongPlace_0 : decode cX5_firstWrongPlace 0 = .ok (.iconst 0, 1) := by decide +kernel
theorem dX5_firstWrongPlace_1 : decode cX5_firstWrongPlace 1 = .ok (.istore_n 1, 1) := by decide +kernel
theorem dX5_firstWrongPlace_2 : decode cX5_firstWrongPlace 2 = .ok (.iload_n 1, 1) := by decide +kernel
theorem dX5_firstWrongPlace_3 : decode cX5_firstWrongPlace 3 = .ok (.aload_n 0, 1) := by decide +kernel
theorem dX5_firstWrongPlace_4 : decode cX5_firstWrongPlace 4 = .ok (.getfield 56, 3) := by decide +kernel
theorem dX5_firstWrongPlace_7 : decode cX5_firstWrongPlace 7 = .ok (.if_icmp .ge 19, 3) := by decide +kernel
theorem dX5_firstWrongPlace_10 : decode cX5_firstWrongPlace 10 = .ok (.aload_n 0, 1) := by decide +kernel
theorem dX5_firstWrongPlace_11 : decode cX5_firstWrongPlace 11 = .ok (.iload_n 1, 1) := by decide +kernel
theorem dX5_firstWrongPlace_12 : decode cX5_firstWrongPlace 12 = .ok (.invokevirtual 280, 3) := by decide +kernel
theorem dX5_firstWrongPlace_15 : decode cX5_firstWrongPlace 15 = .ok (.ifCond .ne 5, 3) := by decide +kernel
theorem dX5_firstWrongPlace_18 : decode cX5_firstWrongPlace 18 = .ok (.iload_n 1, 1) := by decide +kernel
theorem dX5_firstWrongPlace_19 : decode cX5_firstWrongPlace 19 = .ok (.ireturn, 1) := by decide +kernel
theorem dX5_firstWrongPlace_20 : decode cX5_firstWrongPlace 20 = .ok (.iinc 1 1, 3) := by decide +kernel
theorem dX5_firstWrongPlace_23 : decode cX5_firstWrongPlace 23 = .ok (.goto (-21), 3) := by decide +kernel
theorem dX5_firstWrongPlace_26 : decode cX5_firstWrongPlace 26 = .ok (.aload_n 0, 1) := by decide +kernel
theorem dX5_firstWrongPlace_27 : decode cX5_firstWrongPlace 27 = .ok (.getfield 56, 3) := by decide +kernel
theorem dX5_firstWrongPlace_30 : decode cX5_firstWrongPlace 30 = .ok (.ireturn, 1) := by decide +kernel
theorem dX5_fits_0 : decode cX5_fits 0 = .ok (.iload_n 1, 1) := by decide +kernel
theorem dX5_fits_1 : decode cX5_fits 1 = .ok (.bipush 19, 2) := by decide +kernel
theorem dX5_fits_3 : decode cX5_fits 3 = .ok (.if_icmp .lt 5, 3) := by decide +kernel
theorem dX5_fits_6 : decode cX5_fits 6 = .ok (.iconst 0, 1) := by decide +kernel
theorem dX5_fits_7 : decode cX5_fits 7 = .ok (.ireturn, 1) := by decide +kernel
theorem dX5_fits_8 : decode cX5_fits 8 = .ok (.iload_n 1, 1) := by decide +kernel
theorem dX5_fits_9 : decode cX5_fits 9 = .ok (.bipush 13, 2) := by decide +kernel
theorem dX5_fits_11 : decode cX5_fits 11 = .ok (.if_icmp .lt 11, 3) := by decide +kernel
theorem dX5_fits_14 : decode cX5_fits 14 = .ok (.aload_n 0, 1) := by decide +kernel
theorem dX5_fits_15 : decode cX5_fits 15 = .ok (.bipush 13, 2) := by decide +kernel
theorem dX5_fits_17 : decode cX5_fits 17 = .ok (.iload_n 1, 1) := by decide +kernel
theorem dX5_fits_18 : decode cX5_fits 18 = .ok (.invokevirtual 283, 3) := by decide +kernel
theorem dX5_fits_21 : decode cX5_fits 21 = .ok (.ireturn, 1) := by decide +kernel
theorem dX5_fits_22 : decode cX5_fits 22 = .ok (.iload_n 1, 1) := by decide +kernel
theorem dX5_fits_23 : decode cX5_fits 23 = .ok (.bipush 6, 2) := by decide +kernel
theorem dX5_fits_25 : decode cX5_fits 25 = .ok (.if_icmp .ge 10, 3) := by decide +kernel
theorem dX5_fits_28 : decode cX5_fits 28 = .ok (.aload_n 0, 1) := by decide +kernel
theorem dX5_fits_29 : decode cX5_fits 29 = .ok (.iconst 0, 1) := by decide +kernel
theorem dX5_fits_30 : decode cX5_fits 30 = .ok (.iload_n 1, 1) := by decide +kernel
theorem dX5_fits_31 : decode cX5_fits 31 = .ok (.invokevirtual 283, 3) := by decide +kernel
theorem dX5_fits_34 : decode cX5_fits 34 = .ok (.ireturn, 1) := by decide +kernel
theorem dX5_fits_35 : decode cX5_fits 35 = .ok (.aload_n 0, 1) := by decide +kernel
theorem dX5_fits_36 : decode cX5_fits 36 = .ok (.iload_n 1, 1) := by decide +kernel
theorem dX5_fits_37 : decode cX5_fits 37 = .ok (.invokevirtual 286, 3) := by decide +kernel
theorem dX5_fits_40 : decode cX5_fits 40 = .ok (.istore_n 2, 1) := by decide +kernel
theorem dX5_fits_41 : decode cX5_fits 41 = .ok (.iload_n 1, 1) := by decide +kernel
theorem dX5_fits_42 : decode cX5_fits 42 = .ok (.bipush 6, 2) := by decide +kernel
theorem dX5_fits_44 : decode cX5_fits 44 = .ok (.if_icmp .eq 9, 3) := by decide +kernel
theorem dX5_fits_47 : decode cX5_fits 47 = .ok (.iload_n 1, 1) := by decide +kernel
theorem dX5_fits_48 : decode cX5_fits 48 = .ok (.bipush 12, 2) := by decide +kernel
theorem dX5_fits_50 : decode cX5_fits 50 = .ok (.if_icmp .ne 15, 3) := by decide +kernel
theorem dX5_fits_53 : decode cX5_fits 53 = .ok (.iload_n 2, 1) := by decide +kernel
theorem dX5_fits_54 : decode cX5_fits 54 = .ok (.bipush 59, 2) := by decide +kernel
theorem dX5_fits_56 : decode cX5_fits 56 = .ok (.if_icmp .ne 7, 3) := by decide +kernel
theorem dX5_fits_59 : decode cX5_fits 59 = .ok (.iconst 1, 1) := by decide +kernel
theorem dX5_fits_60 : decode cX5_fits 60 = .ok (.goto 4, 3) := by decide +kernel
theorem dX5_fits_63 : decode cX5_fits 63 = .ok (.iconst 0, 1) := by decide +kernel
theorem dX5_fits_64 : decode cX5_fits 64 = .ok (.ireturn, 1) := by decide +kernel
theorem dX5_fits_65 : decode cX5_fits 65 = .ok (.iload_n 2, 1) := by decide +kernel
theorem dX5_fits_66 : decode cX5_fits 66 = .ok (.invokestatic 289, 3) := by decide +kernel
theorem dX5_fits_69 : decode cX5_fits 69 = .ok (.iconst (-1), 1) := by decide +kernel
theorem dX5_fits_70 : decode cX5_fits 70 = .ok (.if_icmp .eq 7, 3) := by decide +kernel
theorem dX5_fits_73 : decode cX5_fits 73 = .ok (.iconst 1, 1) := by decide +kernel
theorem dX5_fits_74 : decode cX5_fits 74 = .ok (.goto 4, 3) := by decide +kernel
theorem dX5_fits_77 : decode cX5_fits 77 = .ok (.iconst 0, 1) := by decide +kernel
theorem dX5_fits_78 : decode cX5_fits 78 = .ok (.ireturn, 1) := by decide +kernel
theorem dX5_isNewSign_0 : decode cX5_isNewSign 0 = .ok (.aload_n 0, 1) := by decide +kernel
theorem dX5_isNewSign_1 : decode cX5_isNewSign 1 = .ok (.iload_n 2, 1) := by decide +kernel
theorem dX5_isNewSign_2 : decode cX5_isNewSign 2 = .ok (.invokevirtual 286, 3) := by decide +kernel
theorem dX5_isNewSign_5 : decode cX5_isNewSign 5 = .ok (.istore_n 3, 1) := by decide +kernel
theorem dX5_isNewSign_6 : decode cX5_isNewSign 6 = .ok (.iload_n 3, 1) := by decide +kernel
theorem dX5_isNewSign_7 : decode cX5_isNewSign 7 = .ok (.invokestatic 292, 3) := by decide +kernel
theorem dX5_isNewSign_10 : decode cX5_isNewSign 10 = .ok (.iconst (-1), 1) := by decide +kernel
theorem dX5_isNewSign_11 : decode cX5_isNewSign 11 = .ok (.if_icmp .ne 5, 3) := by decide +kernel
theorem dX5_isNewSign_14 : decode cX5_isNewSign 14 = .ok (.iconst 0, 1) := by decide +kernel
theorem dX5_isNewSign_15 : decode cX5_isNewSign 15 = .ok (.ireturn, 1) := by decide +kernel
theorem dX5_isNewSign_16 : decode cX5_isNewSign 16 = .ok (.iload_n 1, 1) := by decide +kernel
theorem dX5_isNewSign_17 : decode cX5_isNewSign 17 = .ok (.istore 4, 2) := by decide +kernel
theorem dX5_isNewSign_19 : decode cX5_isNewSign 19 = .ok (.iload 4, 2) := by decide +kernel
theorem dX5_isNewSign_21 : decode cX5_isNewSign 21 = .ok (.iload_n 2, 1) := by decide +kernel
theorem dX5_isNewSign_22 : decode cX5_isNewSign 22 = .ok (.if_icmp .ge 21, 3) := by decide +kernel
theorem dX5_isNewSign_25 : decode cX5_isNewSign 25 = .ok (.aload_n 0, 1) := by decide +kernel
theorem dX5_isNewSign_26 : decode cX5_isNewSign 26 = .ok (.iload 4, 2) := by decide +kernel
theorem dX5_isNewSign_28 : decode cX5_isNewSign 28 = .ok (.invokevirtual 286, 3) := by decide +kernel
theorem dX5_isNewSign_31 : decode cX5_isNewSign 31 = .ok (.iload_n 3, 1) := by decide +kernel
theorem dX5_isNewSign_32 : decode cX5_isNewSign 32 = .ok (.if_icmp .ne 5, 3) := by decide +kernel
theorem dX5_isNewSign_35 : decode cX5_isNewSign 35 = .ok (.iconst 0, 1) := by decide +kernel
theorem dX5_isNewSign_36 : decode cX5_isNewSign 36 = .ok (.ireturn, 1) := by decide +kernel
theorem dX5_isNewSign_37 : decode cX5_isNewSign 37 = .ok (.iinc 4 1, 3) := by decide +kernel
theorem dX5_isNewSign_40 : decode cX5_isNewSign 40 = .ok (.goto (-21), 3) := by decide +kernel
theorem dX5_isNewSign_43 : decode cX5_isNewSign 43 = .ok (.iconst 1, 1) := by decide +kernel
theorem dX5_isNewSign_44 : decode cX5_isNewSign 44 = .ok (.ireturn, 1) := by decide +kernel
theorem dX5_codeAt_0 : decode cX5_codeAt 0 = .ok (.iload_n 1, 1) := by decide +kernel
theorem dX5_codeAt_1 : decode cX5_codeAt 1 = .ok (.iconst 0, 1) := by decide +kernel
theorem dX5_codeAt_2 : decode cX5_codeAt 2 = .ok (.bipush 21, 2) := by decide +kernel
theorem dX5_codeAt_4 : decode cX5_codeAt 4 = .ok (.invokestatic 52, 3) := by decide +kernel
theorem dX5_codeAt_7 : decode cX5_codeAt 7 = .ok (.ifCond .eq 12, 3) := by decide +kernel
theorem dX5_codeAt_10 : decode cX5_codeAt 10 = .ok (.aload_n 0, 1) := by decide +kernel
theorem dX5_codeAt_11 : decode cX5_codeAt 11 = .ok (.getfield 45, 3) := by decide +kernel
theorem dX5_codeAt_14 : decode cX5_codeAt 14 = .ok (.iload_n 1, 1) := by decide +kernel
theorem dX5_codeAt_15 : decode cX5_codeAt 15 = .ok (.iaload, 1) := by decide +kernel
theorem dX5_codeAt_16 : decode cX5_codeAt 16 = .ok (.goto 4, 3) := by decide +kernel
theorem dX5_codeAt_19 : decode cX5_codeAt 19 = .ok (.iconst (-1), 1) := by decide +kernel
theorem dX5_codeAt_20 : decode cX5_codeAt 20 = .ok (.ireturn, 1) := by decide +kernel
theorem dX5_signByLetter_0 : decode cX5_signByLetter 0 = .ok (.iload_n 0, 1) := by decide +kernel
theorem dX5_signByLetter_1 : decode cX5_signByLetter 1 = .ok (.bipush 46, 2) := by decide +kernel
theorem dX5_signByLetter_3 : decode cX5_signByLetter 3 = .ok (.if_icmp .ne 5, 3) := by decide +kernel
theorem dX5_signByLetter_6 : decode cX5_signByLetter 6 = .ok (.iconst 5, 1) := by decide +kernel
theorem dX5_signByLetter_7 : decode cX5_signByLetter 7 = .ok (.ireturn, 1) := by decide +kernel
theorem dX5_signByLetter_8 : decode cX5_signByLetter 8 = .ok (.iload_n 0, 1) := by decide +kernel
theorem dX5_signByLetter_9 : decode cX5_signByLetter 9 = .ok (.bipush 48, 2) := by decide +kernel
theorem dX5_signByLetter_11 : decode cX5_signByLetter 11 = .ok (.bipush 52, 2) := by decide +kernel
theorem dX5_signByLetter_13 : decode cX5_signByLetter 13 = .ok (.invokestatic 52, 3) := by decide +kernel
theorem dX5_signByLetter_16 : decode cX5_signByLetter 16 = .ok (.ifCond .eq 10, 3) := by decide +kernel
theorem dX5_signByLetter_19 : decode cX5_signByLetter 19 = .ok (.iload_n 0, 1) := by decide +kernel
theorem dX5_signByLetter_20 : decode cX5_signByLetter 20 = .ok (.bipush 48, 2) := by decide +kernel
theorem dX5_signByLetter_22 : decode cX5_signByLetter 22 = .ok (.isub, 1) := by decide +kernel
theorem dX5_signByLetter_23 : decode cX5_signByLetter 23 = .ok (.goto 4, 3) := by decide +kernel
theorem dX5_signByLetter_26 : decode cX5_signByLetter 26 = .ok (.iconst (-1), 1) := by decide +kernel
theorem dX5_signByLetter_27 : decode cX5_signByLetter 27 = .ok (.ireturn, 1) := by decide +kernel
theorem dX5_readLay_0 : decode cX5_readLay 0 = .ok (.iconst 0, 1) := by decide +kernel
theorem dX5_readLay_1 : decode cX5_readLay 1 = .ok (.istore_n 2, 1) := by decide +kernel
theorem dX5_readLay_2 : decode cX5_readLay 2 = .ok (.iload_n 2, 1) := by decide +kernel
theorem dX5_readLay_3 : decode cX5_readLay 3 = .ok (.bipush 6, 2) := by decide +kernel
theorem dX5_readLay_5 : decode cX5_readLay 5 = .ok (.if_icmp .ge 25, 3) := by decide +kernel
theorem dX5_readLay_8 : decode cX5_readLay 8 = .ok (.aload_n 0, 1) := by decide +kernel
theorem dX5_readLay_9 : decode cX5_readLay 9 = .ok (.getfield 49, 3) := by decide +kernel
theorem dX5_readLay_12 : decode cX5_readLay 12 = .ok (.iload_n 2, 1) := by decide +kernel
theorem dX5_readLay_13 : decode cX5_readLay 13 = .ok (.aload_n 0, 1) := by decide +kernel
theorem dX5_readLay_14 : decode cX5_readLay 14 = .ok (.iload_n 1, 1) := by decide +kernel
theorem dX5_readLay_15 : decode cX5_readLay 15 = .ok (.iload_n 2, 1) := by decide +kernel
theorem dX5_readLay_16 : decode cX5_readLay 16 = .ok (.iadd, 1) := by decide +kernel
theorem dX5_readLay_17 : decode cX5_readLay 17 = .ok (.invokevirtual 286, 3) := by decide +kernel
theorem dX5_readLay_20 : decode cX5_readLay 20 = .ok (.invokestatic 292, 3) := by decide +kernel
theorem dX5_readLay_23 : decode cX5_readLay 23 = .ok (.iastore, 1) := by decide +kernel
theorem dX5_readLay_24 : decode cX5_readLay 24 = .ok (.iinc 2 1, 3) := by decide +kernel
theorem dX5_readLay_27 : decode cX5_readLay 27 = .ok (.goto (-25), 3) := by decide +kernel
theorem dX5_readLay_30 : decode cX5_readLay 30 = .ok (.aload_n 0, 1) := by decide +kernel
theorem dX5_readLay_31 : decode cX5_readLay 31 = .ok (.getfield 49, 3) := by decide +kernel
theorem dX5_readLay_34 : decode cX5_readLay 34 = .ok (.invokestatic 295, 3) := by decide +kernel
theorem dX5_readLay_37 : decode cX5_readLay 37 = .ok (.ireturn, 1) := by decide +kernel
theorem dX5_readKinds_0 : decode cX5_readKinds 0 = .ok (.iconst 0, 1) := by decide +kernel
theorem dX5_readKinds_1 : decode cX5_readKinds 1 = .ok (.istore_n 1, 1) := by decide +kernel
theorem dX5_readKinds_2 : decode cX5_readKinds 2 = .ok (.iconst 0, 1) := by decide +kernel
theorem dX5_readKinds_3 : decode cX5_readKinds 3 = .ok (.istore_n 2, 1) := by decide +kernel
theorem dX5_readKinds_4 : decode cX5_readKinds 4 = .ok (.iload_n 2, 1) := by decide +kernel
theorem dX5_readKinds_5 : decode cX5_readKinds 5 = .ok (.iconst 5, 1) := by decide +kernel
theorem dX5_readKinds_6 : decode cX5_readKinds 6 = .ok (.if_icmp .ge 26, 3) := by decide +kernel
theorem dX5_readKinds_9 : decode cX5_readKinds 9 = .ok (.iload_n 1, 1) := by decide +kernel
theorem dX5_readKinds_10 : decode cX5_readKinds 10 = .ok (.iload_n 2, 1) := by decide +kernel
theorem dX5_readKinds_11 : decode cX5_readKinds 11 = .ok (.aload_n 0, 1) := by decide +kernel
theorem dX5_readKinds_12 : decode cX5_readKinds 12 = .ok (.bipush 7, 2) := by decide +kernel
theorem dX5_readKinds_14 : decode cX5_readKinds 14 = .ok (.iload_n 2, 1) := by decide +kernel
theorem dX5_readKinds_15 : decode cX5_readKinds 15 = .ok (.iadd, 1) := by decide +kernel
theorem dX5_readKinds_16 : decode cX5_readKinds 16 = .ok (.invokevirtual 286, 3) := by decide +kernel
theorem dX5_readKinds_19 : decode cX5_readKinds 19 = .ok (.invokestatic 289, 3) := by decide +kernel
theorem dX5_readKinds_22 : decode cX5_readKinds 22 = .ok (.invokestatic 156, 3) := by decide +kernel
theorem dX5_readKinds_25 : decode cX5_readKinds 25 = .ok (.istore_n 1, 1) := by decide +kernel
theorem dX5_readKinds_26 : decode cX5_readKinds 26 = .ok (.iinc 2 1, 3) := by decide +kernel
theorem dX5_readKinds_29 : decode cX5_readKinds 29 = .ok (.goto (-25), 3) := by decide +kernel
theorem dX5_readKinds_32 : decode cX5_readKinds 32 = .ok (.iload_n 1, 1) := by decide +kernel
theorem dX5_readKinds_33 : decode cX5_readKinds 33 = .ok (.ireturn, 1) := by decide +kernel
theorem dX5_cheapestTile_0 : decode cX5_cheapestTile 0 = .ok (.aload_n 0, 1) := by decide +kernel
theorem dX5_cheapestTile_1 : decode cX5_cheapestTile 1 = .ok (.getfield 25, 3) := by decide +kernel
theorem dX5_cheapestTile_4 : decode cX5_cheapestTile 4 = .ok (.iload_n 1, 1) := by decide +kernel
theorem dX5_cheapestTile_5 : decode cX5_cheapestTile 5 = .ok (.invokevirtual 163, 3) := by decide +kernel
theorem dX5_cheapestTile_8 : decode cX5_cheapestTile 8 = .ok (.istore_n 2, 1) := by decide +kernel
theorem dX5_cheapestTile_9 : decode cX5_cheapestTile 9 = .ok (.iload_n 2, 1) := by decide +kernel
theorem dX5_cheapestTile_10 : decode cX5_cheapestTile 10 = .ok (.iconst (-1), 1) := by decide +kernel
theorem dX5_cheapestTile_11 : decode cX5_cheapestTile 11 = .ok (.if_icmp .ne 5, 3) := by decide +kernel
theorem dX5_cheapestTile_14 : decode cX5_cheapestTile 14 = .ok (.iconst (-1), 1) := by decide +kernel
theorem dX5_cheapestTile_15 : decode cX5_cheapestTile 15 = .ok (.ireturn, 1) := by decide +kernel
theorem dX5_cheapestTile_16 : decode cX5_cheapestTile 16 = .ok (.iconst 0, 1) := by decide +kernel
theorem dX5_cheapestTile_17 : decode cX5_cheapestTile 17 = .ok (.istore_n 3, 1) := by decide +kernel
theorem dX5_cheapestTile_18 : decode cX5_cheapestTile 18 = .ok (.iload_n 3, 1) := by decide +kernel
theorem dX5_cheapestTile_19 : decode cX5_cheapestTile 19 = .ok (.iconst 5, 1) := by decide +kernel
theorem dX5_cheapestTile_20 : decode cX5_cheapestTile 20 = .ok (.if_icmp .ge 58, 3) := by decide +kernel
theorem dX5_cheapestTile_23 : decode cX5_cheapestTile 23 = .ok (.aload_n 0, 1) := by decide +kernel
theorem dX5_cheapestTile_24 : decode cX5_cheapestTile 24 = .ok (.getfield 10, 3) := by decide +kernel
theorem dX5_cheapestTile_27 : decode cX5_cheapestTile 27 = .ok (.iload_n 1, 1) := by decide +kernel
theorem dX5_cheapestTile_28 : decode cX5_cheapestTile 28 = .ok (.iload_n 3, 1) := by decide +kernel
theorem dX5_cheapestTile_29 : decode cX5_cheapestTile 29 = .ok (.aload_n 0, 1) := by decide +kernel
theorem dX5_cheapestTile_30 : decode cX5_cheapestTile 30 = .ok (.getfield 38, 3) := by decide +kernel
theorem dX5_cheapestTile_33 : decode cX5_cheapestTile 33 = .ok (.getfield 93, 3) := by decide +kernel
theorem dX5_cheapestTile_36 : decode cX5_cheapestTile 36 = .ok (.invokevirtual 102, 3) := by decide +kernel
theorem dX5_cheapestTile_39 : decode cX5_cheapestTile 39 = .ok (.istore 4, 2) := by decide +kernel
theorem dX5_cheapestTile_41 : decode cX5_cheapestTile 41 = .ok (.iload 4, 2) := by decide +kernel
theorem dX5_cheapestTile_43 : decode cX5_cheapestTile 43 = .ok (.iconst (-1), 1) := by decide +kernel
theorem dX5_cheapestTile_44 : decode cX5_cheapestTile 44 = .ok (.if_icmp .eq 28, 3) := by decide +kernel
theorem dX5_cheapestTile_47 : decode cX5_cheapestTile 47 = .ok (.aload_n 0, 1) := by decide +kernel
theorem dX5_cheapestTile_48 : decode cX5_cheapestTile 48 = .ok (.getfield 25, 3) := by decide +kernel
theorem dX5_cheapestTile_51 : decode cX5_cheapestTile 51 = .ok (.aload_n 0, 1) := by decide +kernel
theorem dX5_cheapestTile_52 : decode cX5_cheapestTile 52 = .ok (.getfield 10, 3) := by decide +kernel
theorem dX5_cheapestTile_55 : decode cX5_cheapestTile 55 = .ok (.iload_n 1, 1) := by decide +kernel
theorem dX5_cheapestTile_56 : decode cX5_cheapestTile 56 = .ok (.iload_n 3, 1) := by decide +kernel
theorem dX5_cheapestTile_57 : decode cX5_cheapestTile 57 = .ok (.invokevirtual 147, 3) := by decide +kernel
theorem dX5_cheapestTile_60 : decode cX5_cheapestTile 60 = .ok (.invokevirtual 163, 3) := by decide +kernel
theorem dX5_cheapestTile_63 : decode cX5_cheapestTile 63 = .ok (.iload 4, 2) := by decide +kernel
theorem dX5_cheapestTile_65 : decode cX5_cheapestTile 65 = .ok (.iadd, 1) := by decide +kernel
theorem dX5_cheapestTile_66 : decode cX5_cheapestTile 66 = .ok (.iload_n 2, 1) := by decide +kernel
theorem dX5_cheapestTile_67 : decode cX5_cheapestTile 67 = .ok (.if_icmp .ne 5, 3) := by decide +kernel
theorem dX5_cheapestTile_70 : decode cX5_cheapestTile 70 = .ok (.iload_n 3, 1) := by decide +kernel
theorem dX5_cheapestTile_71 : decode cX5_cheapestTile 71 = .ok (.ireturn, 1) := by decide +kernel
theorem dX5_cheapestTile_72 : decode cX5_cheapestTile 72 = .ok (.iinc 3 1, 3) := by decide +kernel
theorem dX5_cheapestTile_75 : decode cX5_cheapestTile 75 = .ok (.goto (-57), 3) := by decide +kernel
theorem dX5_cheapestTile_78 : decode cX5_cheapestTile 78 = .ok (.iconst (-1), 1) := by decide +kernel
theorem dX5_cheapestTile_79 : decode cX5_cheapestTile 79 = .ok (.ireturn, 1) := by decide +kernel
theorem dX5_pushesToGoal_0 : decode cX5_pushesToGoal 0 = .ok (.aload_n 0, 1) := by decide +kernel
theorem dX5_pushesToGoal_1 : decode cX5_pushesToGoal 1 = .ok (.getfield 25, 3) := by decide +kernel
theorem dX5_pushesToGoal_4 : decode cX5_pushesToGoal 4 = .ok (.aload_n 0, 1) := by decide +kernel
theorem dX5_pushesToGoal_5 : decode cX5_pushesToGoal 5 = .ok (.getfield 38, 3) := by decide +kernel
theorem dX5_pushesToGoal_8 : decode cX5_pushesToGoal 8 = .ok (.getfield 82, 3) := by decide +kernel
theorem dX5_pushesToGoal_11 : decode cX5_pushesToGoal 11 = .ok (.invokevirtual 163, 3) := by decide +kernel
theorem dX5_pushesToGoal_14 : decode cX5_pushesToGoal 14 = .ok (.iconst (-1), 1) := by decide +kernel
theorem dX5_pushesToGoal_15 : decode cX5_pushesToGoal 15 = .ok (.if_icmp .ne 5, 3) := by decide +kernel
theorem dX5_pushesToGoal_18 : decode cX5_pushesToGoal 18 = .ok (.iconst (-1), 1) := by decide +kernel
theorem dX5_pushesToGoal_19 : decode cX5_pushesToGoal 19 = .ok (.ireturn, 1) := by decide +kernel
theorem dX5_pushesToGoal_20 : decode cX5_pushesToGoal 20 = .ok (.aload_n 0, 1) := by decide +kernel
theorem dX5_pushesToGoal_21 : decode cX5_pushesToGoal 21 = .ok (.getfield 38, 3) := by decide +kernel
theorem dX5_pushesToGoal_24 : decode cX5_pushesToGoal 24 = .ok (.getfield 82, 3) := by decide +kernel
theorem dX5_pushesToGoal_27 : decode cX5_pushesToGoal 27 = .ok (.istore_n 1, 1) := by decide +kernel
theorem dX5_pushesToGoal_28 : decode cX5_pushesToGoal 28 = .ok (.iconst 0, 1) := by decide +kernel
theorem dX5_pushesToGoal_29 : decode cX5_pushesToGoal 29 = .ok (.istore_n 2, 1) := by decide +kernel
theorem dX5_pushesToGoal_30 : decode cX5_pushesToGoal 30 = .ok (.iload_n 1, 1) := by decide +kernel
theorem dX5_pushesToGoal_31 : decode cX5_pushesToGoal 31 = .ok (.aload_n 0, 1) := by decide +kernel
theorem dX5_pushesToGoal_32 : decode cX5_pushesToGoal 32 = .ok (.getfield 38, 3) := by decide +kernel
theorem dX5_pushesToGoal_35 : decode cX5_pushesToGoal 35 = .ok (.getfield 99, 3) := by decide +kernel
theorem dX5_pushesToGoal_38 : decode cX5_pushesToGoal 38 = .ok (.if_icmp .eq 30, 3) := by decide +kernel
theorem dX5_pushesToGoal_41 : decode cX5_pushesToGoal 41 = .ok (.iload_n 2, 1) := by decide +kernel
theorem dX5_pushesToGoal_42 : decode cX5_pushesToGoal 42 = .ok (.sipush 720, 3) := by decide +kernel
theorem dX5_pushesToGoal_45 : decode cX5_pushesToGoal 45 = .ok (.if_icmp .ge 23, 3) := by decide +kernel
theorem dX5_pushesToGoal_48 : decode cX5_pushesToGoal 48 = .ok (.aload_n 0, 1) := by decide +kernel
theorem dX5_pushesToGoal_49 : decode cX5_pushesToGoal 49 = .ok (.getfield 10, 3) := by decide +kernel
theorem dX5_pushesToGoal_52 : decode cX5_pushesToGoal 52 = .ok (.iload_n 1, 1) := by decide +kernel
theorem dX5_pushesToGoal_53 : decode cX5_pushesToGoal 53 = .ok (.aload_n 0, 1) := by decide +kernel
theorem dX5_pushesToGoal_54 : decode cX5_pushesToGoal 54 = .ok (.iload_n 1, 1) := by decide +kernel
theorem dX5_pushesToGoal_55 : decode cX5_pushesToGoal 55 = .ok (.invokevirtual 166, 3) := by decide +kernel
theorem dX5_pushesToGoal_58 : decode cX5_pushesToGoal 58 = .ok (.invokevirtual 147, 3) := by decide +kernel
theorem dX5_pushesToGoal_61 : decode cX5_pushesToGoal 61 = .ok (.istore_n 1, 1) := by decide +kernel
theorem dX5_pushesToGoal_62 : decode cX5_pushesToGoal 62 = .ok (.iinc 2 1, 3) := by decide +kernel
theorem dX5_pushesToGoal_65 : decode cX5_pushesToGoal 65 = .ok (.goto (-35), 3) := by decide +kernel
theorem dX5_pushesToGoal_68 : decode cX5_pushesToGoal 68 = .ok (.iload_n 2, 1) := by decide +kernel
theorem dX5_pushesToGoal_69 : decode cX5_pushesToGoal 69 = .ok (.ireturn, 1) := by decide +kernel
theorem dX5_circles_0 : decode cX5_circles 0 = .ok (.iconst 0, 1) := by decide +kernel
theorem dX5_circles_1 : decode cX5_circles 1 = .ok (.istore_n 1, 1) := by decide +kernel
theorem dX5_circles_2 : decode cX5_circles 2 = .ok (.iconst 0, 1) := by decide +kernel
theorem dX5_circles_3 : decode cX5_circles 3 = .ok (.istore_n 2, 1) := by decide +kernel
theorem dX5_circles_4 : decode cX5_circles 4 = .ok (.iconst 0, 1) := by decide +kernel
theorem dX5_circles_5 : decode cX5_circles 5 = .ok (.istore_n 3, 1) := by decide +kernel
theorem dX5_circles_6 : decode cX5_circles 6 = .ok (.iload_n 3, 1) := by decide +kernel
theorem dX5_circles_7 : decode cX5_circles 7 = .ok (.bipush 6, 2) := by decide +kernel
theorem dX5_circles_9 : decode cX5_circles 9 = .ok (.if_icmp .ge 87, 3) := by decide +kernel
theorem dX5_circles_12 : decode cX5_circles 12 = .ok (.iload_n 2, 1) := by decide +kernel
theorem dX5_circles_13 : decode cX5_circles 13 = .ok (.iload_n 3, 1) := by decide +kernel
theorem dX5_circles_14 : decode cX5_circles 14 = .ok (.ishr, 1) := by decide +kernel
theorem dX5_circles_15 : decode cX5_circles 15 = .ok (.iconst 1, 1) := by decide +kernel
theorem dX5_circles_16 : decode cX5_circles 16 = .ok (.iand, 1) := by decide +kernel
theorem dX5_circles_17 : decode cX5_circles 17 = .ok (.ifCond .ne 6, 3) := by decide +kernel
theorem dX5_circles_20 : decode cX5_circles 20 = .ok (.iinc 1 1, 3) := by decide +kernel
theorem dX5_circles_23 : decode cX5_circles 23 = .ok (.iload_n 3, 1) := by decide +kernel
theorem dX5_circles_24 : decode cX5_circles 24 = .ok (.istore 4, 2) := by decide +kernel
theorem dX5_circles_26 : decode cX5_circles 26 = .ok (.iconst 0, 1) := by decide +kernel
theorem dX5_circles_27 : decode cX5_circles 27 = .ok (.istore 5, 2) := by decide +kernel
theorem dX5_circles_29 : decode cX5_circles 29 = .ok (.iload 5, 2) := by decide +kernel
theorem dX5_circles_31 : decode cX5_circles 31 = .ok (.bipush 6, 2) := by decide +kernel
theorem dX5_circles_33 : decode cX5_circles 33 = .ok (.if_icmp .ge 57, 3) := by decide +kernel
theorem dX5_circles_36 : decode cX5_circles 36 = .ok (.iload_n 2, 1) := by decide +kernel
theorem dX5_circles_37 : decode cX5_circles 37 = .ok (.iload 4, 2) := by decide +kernel
theorem dX5_circles_39 : decode cX5_circles 39 = .ok (.ishr, 1) := by decide +kernel
theorem dX5_circles_40 : decode cX5_circles 40 = .ok (.iconst 1, 1) := by decide +kernel
theorem dX5_circles_41 : decode cX5_circles 41 = .ok (.iand, 1) := by decide +kernel
theorem dX5_circles_42 : decode cX5_circles 42 = .ok (.ifCond .ne 48, 3) := by decide +kernel
theorem dX5_circles_45 : decode cX5_circles 45 = .ok (.iload_n 2, 1) := by decide +kernel
theorem dX5_circles_46 : decode cX5_circles 46 = .ok (.iconst 1, 1) := by decide +kernel
theorem dX5_circles_47 : decode cX5_circles 47 = .ok (.iload 4, 2) := by decide +kernel
theorem dX5_circles_49 : decode cX5_circles 49 = .ok (.ishl, 1) := by decide +kernel
theorem dX5_circles_50 : decode cX5_circles 50 = .ok (.ior, 1) := by decide +kernel
theorem dX5_circles_51 : decode cX5_circles 51 = .ok (.istore_n 2, 1) := by decide +kernel
theorem dX5_circles_52 : decode cX5_circles 52 = .ok (.aload_n 0, 1) := by decide +kernel
theorem dX5_circles_53 : decode cX5_circles 53 = .ok (.getfield 10, 3) := by decide +kernel
theorem dX5_circles_56 : decode cX5_circles 56 = .ok (.aload_n 0, 1) := by decide +kernel
theorem dX5_circles_57 : decode cX5_circles 57 = .ok (.getfield 38, 3) := by decide +kernel
theorem dX5_circles_60 : decode cX5_circles 60 = .ok (.getfield 99, 3) := by decide +kernel
theorem dX5_circles_63 : decode cX5_circles 63 = .ok (.aload_n 0, 1) := by decide +kernel
theorem dX5_circles_64 : decode cX5_circles 64 = .ok (.getfield 10, 3) := by decide +kernel
theorem dX5_circles_67 : decode cX5_circles 67 = .ok (.aload_n 0, 1) := by decide +kernel
theorem dX5_circles_68 : decode cX5_circles 68 = .ok (.getfield 38, 3) := by decide +kernel
theorem dX5_circles_71 : decode cX5_circles 71 = .ok (.getfield 82, 3) := by decide +kernel
theorem dX5_circles_74 : decode cX5_circles 74 = .ok (.iload 4, 2) := by decide +kernel
theorem dX5_circles_76 : decode cX5_circles 76 = .ok (.invokevirtual 134, 3) := by decide +kernel
theorem dX5_circles_79 : decode cX5_circles 79 = .ok (.invokevirtual 85, 3) := by decide +kernel
theorem dX5_circles_82 : decode cX5_circles 82 = .ok (.istore 4, 2) := by decide +kernel
theorem dX5_circles_84 : decode cX5_circles 84 = .ok (.iinc 5 1, 3) := by decide +kernel
theorem dX5_circles_87 : decode cX5_circles 87 = .ok (.goto (-58), 3) := by decide +kernel
theorem dX5_circles_90 : decode cX5_circles 90 = .ok (.iinc 3 1, 3) := by decide +kernel
theorem dX5_circles_93 : decode cX5_circles 93 = .ok (.goto (-87), 3) := by decide +kernel
theorem dX5_circles_96 : decode cX5_circles 96 = .ok (.iload_n 1, 1) := by decide +kernel
theorem dX5_circles_97 : decode cX5_circles 97 = .ok (.ireturn, 1) := by decide +kernel
theorem dX5_cellsAlike_0 : decode cX5_cellsAlike 0 = .ok (.iconst 0, 1) := by decide +kernel
theorem dX5_cellsAlike_1 : decode cX5_cellsAlike 1 = .ok (.istore_n 3, 1) := by decide +kernel
theorem dX5_cellsAlike_2 : decode cX5_cellsAlike 2 = .ok (.iconst 0, 1) := by decide +kernel
theorem dX5_cellsAlike_3 : decode cX5_cellsAlike 3 = .ok (.istore 4, 2) := by decide +kernel
theorem dX5_cellsAlike_5 : decode cX5_cellsAlike 5 = .ok (.iload 4, 2) := by decide +kernel
theorem dX5_cellsAlike_7 : decode cX5_cellsAlike 7 = .ok (.bipush 6, 2) := by decide +kernel
theorem dX5_cellsAlike_9 : decode cX5_cellsAlike 9 = .ok (.if_icmp .ge 35, 3) := by decide +kernel
theorem dX5_cellsAlike_12 : decode cX5_cellsAlike 12 = .ok (.aload_n 0, 1) := by decide +kernel
theorem dX5_cellsAlike_13 : decode cX5_cellsAlike 13 = .ok (.getfield 10, 3) := by decide +kernel
theorem dX5_cellsAlike_16 : decode cX5_cellsAlike 16 = .ok (.iload_n 1, 1) := by decide +kernel
theorem dX5_cellsAlike_17 : decode cX5_cellsAlike 17 = .ok (.iload 4, 2) := by decide +kernel
theorem dX5_cellsAlike_19 : decode cX5_cellsAlike 19 = .ok (.invokevirtual 134, 3) := by decide +kernel
theorem dX5_cellsAlike_22 : decode cX5_cellsAlike 22 = .ok (.aload_n 0, 1) := by decide +kernel
theorem dX5_cellsAlike_23 : decode cX5_cellsAlike 23 = .ok (.getfield 10, 3) := by decide +kernel
theorem dX5_cellsAlike_26 : decode cX5_cellsAlike 26 = .ok (.iload_n 2, 1) := by decide +kernel
theorem dX5_cellsAlike_27 : decode cX5_cellsAlike 27 = .ok (.iload 4, 2) := by decide +kernel
theorem dX5_cellsAlike_29 : decode cX5_cellsAlike 29 = .ok (.invokevirtual 134, 3) := by decide +kernel
theorem dX5_cellsAlike_32 : decode cX5_cellsAlike 32 = .ok (.if_icmp .ne 6, 3) := by decide +kernel
theorem dX5_cellsAlike_35 : decode cX5_cellsAlike 35 = .ok (.iinc 3 1, 3) := by decide +kernel
theorem dX5_cellsAlike_38 : decode cX5_cellsAlike 38 = .ok (.iinc 4 1, 3) := by decide +kernel
theorem dX5_cellsAlike_41 : decode cX5_cellsAlike 41 = .ok (.goto (-36), 3) := by decide +kernel
theorem dX5_cellsAlike_44 : decode cX5_cellsAlike 44 = .ok (.iload_n 3, 1) := by decide +kernel
theorem dX5_cellsAlike_45 : decode cX5_cellsAlike 45 = .ok (.ireturn, 1) := by decide +kernel
theorem dX5_sortsThatCost_0 : decode cX5_sortsThatCost 0 = .ok (.iconst 0, 1) := by decide +kernel
theorem dX5_sortsThatCost_1 : decode cX5_sortsThatCost 1 = .ok (.istore_n 2, 1) := by decide +kernel
theorem dX5_sortsThatCost_2 : decode cX5_sortsThatCost 2 = .ok (.iconst 0, 1) := by decide +kernel
theorem dX5_sortsThatCost_3 : decode cX5_sortsThatCost 3 = .ok (.istore_n 3, 1) := by decide +kernel
theorem dX5_sortsThatCost_4 : decode cX5_sortsThatCost 4 = .ok (.iload_n 3, 1) := by decide +kernel
theorem dX5_sortsThatCost_5 : decode cX5_sortsThatCost 5 = .ok (.getstatic 122, 3) := by decide +kernel
theorem dX5_sortsThatCost_8 : decode cX5_sortsThatCost 8 = .ok (.arraylength, 1) := by decide +kernel
theorem dX5_sortsThatCost_9 : decode cX5_sortsThatCost 9 = .ok (.if_icmp .ge 28, 3) := by decide +kernel
theorem dX5_sortsThatCost_12 : decode cX5_sortsThatCost 12 = .ok (.getstatic 122, 3) := by decide +kernel
theorem dX5_sortsThatCost_15 : decode cX5_sortsThatCost 15 = .ok (.iload_n 3, 1) := by decide +kernel
theorem dX5_sortsThatCost_16 : decode cX5_sortsThatCost 16 = .ok (.aaload, 1) := by decide +kernel
theorem dX5_sortsThatCost_17 : decode cX5_sortsThatCost 17 = .ok (.iload_n 0, 1) := by decide +kernel
theorem dX5_sortsThatCost_18 : decode cX5_sortsThatCost 18 = .ok (.invokevirtual 299, 3) := by decide +kernel
theorem dX5_sortsThatCost_21 : decode cX5_sortsThatCost 21 = .ok (.iload_n 1, 1) := by decide +kernel
theorem dX5_sortsThatCost_22 : decode cX5_sortsThatCost 22 = .ok (.if_icmp .ne 9, 3) := by decide +kernel
theorem dX5_sortsThatCost_25 : decode cX5_sortsThatCost 25 = .ok (.iload_n 2, 1) := by decide +kernel
theorem dX5_sortsThatCost_26 : decode cX5_sortsThatCost 26 = .ok (.iconst 1, 1) := by decide +kernel
theorem dX5_sortsThatCost_27 : decode cX5_sortsThatCost 27 = .ok (.iload_n 3, 1) := by decide +kernel
theorem dX5_sortsThatCost_28 : decode cX5_sortsThatCost 28 = .ok (.ishl, 1) := by decide +kernel
theorem dX5_sortsThatCost_29 : decode cX5_sortsThatCost 29 = .ok (.ior, 1) := by decide +kernel
theorem dX5_sortsThatCost_30 : decode cX5_sortsThatCost 30 = .ok (.istore_n 2, 1) := by decide +kernel
theorem dX5_sortsThatCost_31 : decode cX5_sortsThatCost 31 = .ok (.iinc 3 1, 3) := by decide +kernel
theorem dX5_sortsThatCost_34 : decode cX5_sortsThatCost 34 = .ok (.goto (-30), 3) := by decide +kernel
theorem dX5_sortsThatCost_37 : decode cX5_sortsThatCost 37 = .ok (.iload_n 2, 1) := by decide +kernel
theorem dX5_sortsThatCost_38 : decode cX5_sortsThatCost 38 = .ok (.ireturn, 1) := by decide +kernel
theorem dX5_bestWay_0 : decode cX5_bestWay 0 = .ok (.iload_n 0, 1) := by decide +kernel
theorem dX5_bestWay_1 : decode cX5_bestWay 1 = .ok (.ifCond .ne 5, 3) := by decide +kernel
theorem dX5_bestWay_4 : decode cX5_bestWay 4 = .ok (.iconst (-1), 1) := by decide +kernel
theorem dX5_bestWay_5 : decode cX5_bestWay 5 = .ok (.ireturn, 1) := by decide +kernel
theorem dX5_bestWay_6 : decode cX5_bestWay 6 = .ok (.iload_n 0, 1) := by decide +kernel
theorem dX5_bestWay_7 : decode cX5_bestWay 7 = .ok (.iconst 1, 1) := by decide +kernel
theorem dX5_bestWay_8 : decode cX5_bestWay 8 = .ok (.invokestatic 301, 3) := by decide +kernel
theorem dX5_bestWay_11 : decode cX5_bestWay 11 = .ok (.iload_n 0, 1) := by decide +kernel
theorem dX5_bestWay_12 : decode cX5_bestWay 12 = .ok (.iconst 0, 1) := by decide +kernel
theorem dX5_bestWay_13 : decode cX5_bestWay 13 = .ok (.invokestatic 301, 3) := by decide +kernel
theorem dX5_bestWay_16 : decode cX5_bestWay 16 = .ok (.if_icmp .ge 7, 3) := by decide +kernel
theorem dX5_bestWay_19 : decode cX5_bestWay 19 = .ok (.iconst 1, 1) := by decide +kernel
theorem dX5_bestWay_20 : decode cX5_bestWay 20 = .ok (.goto 4, 3) := by decide +kernel
theorem dX5_bestWay_23 : decode cX5_bestWay 23 = .ok (.iconst 0, 1) := by decide +kernel
theorem dX5_bestWay_24 : decode cX5_bestWay 24 = .ok (.ireturn, 1) := by decide +kernel
theorem dX5_mostLeft_0 : decode cX5_mostLeft 0 = .ok (.iconst 0, 1) := by decide +kernel
theorem dX5_mostLeft_1 : decode cX5_mostLeft 1 = .ok (.istore_n 2, 1) := by decide +kernel
theorem dX5_mostLeft_2 : decode cX5_mostLeft 2 = .ok (.iconst 0, 1) := by decide +kernel
theorem dX5_mostLeft_3 : decode cX5_mostLeft 3 = .ok (.istore_n 3, 1) := by decide +kernel
theorem dX5_mostLeft_4 : decode cX5_mostLeft 4 = .ok (.iload_n 3, 1) := by decide +kernel
theorem dX5_mostLeft_5 : decode cX5_mostLeft 5 = .ok (.iconst 3, 1) := by decide +kernel
theorem dX5_mostLeft_6 : decode cX5_mostLeft 6 = .ok (.if_icmp .gt 24, 3) := by decide +kernel
theorem dX5_mostLeft_9 : decode cX5_mostLeft 9 = .ok (.iload_n 2, 1) := by decide +kernel
theorem dX5_mostLeft_10 : decode cX5_mostLeft 10 = .ok (.iload_n 0, 1) := by decide +kernel
theorem dX5_mostLeft_11 : decode cX5_mostLeft 11 = .ok (.iload_n 1, 1) := by decide +kernel
theorem dX5_mostLeft_12 : decode cX5_mostLeft 12 = .ok (.iload_n 3, 1) := by decide +kernel
theorem dX5_mostLeft_13 : decode cX5_mostLeft 13 = .ok (.invokestatic 202, 3) := by decide +kernel
theorem dX5_mostLeft_16 : decode cX5_mostLeft 16 = .ok (.iand, 1) := by decide +kernel
theorem dX5_mostLeft_17 : decode cX5_mostLeft 17 = .ok (.invokestatic 304, 3) := by decide +kernel
theorem dX5_mostLeft_20 : decode cX5_mostLeft 20 = .ok (.invokestatic 194, 3) := by decide +kernel
theorem dX5_mostLeft_23 : decode cX5_mostLeft 23 = .ok (.istore_n 2, 1) := by decide +kernel
theorem dX5_mostLeft_24 : decode cX5_mostLeft 24 = .ok (.iinc 3 1, 3) := by decide +kernel
theorem dX5_mostLeft_27 : decode cX5_mostLeft 27 = .ok (.goto (-23), 3) := by decide +kernel
theorem dX5_mostLeft_30 : decode cX5_mostLeft 30 = .ok (.iload_n 2, 1) := by decide +kernel
theorem dX5_mostLeft_31 : decode cX5_mostLeft 31 = .ok (.ireturn, 1) := by decide +kernel
theorem dX5_nextSeed_0 : decode cX5_nextSeed 0 = .ok (.ldc2_w 309, 3) := by decide +kernel
theorem dX5_nextSeed_3 : decode cX5_nextSeed 3 = .ok (.iload_n 0, 1) := by decide +kernel
theorem dX5_nextSeed_4 : decode cX5_nextSeed 4 = .ok (.i2l, 1) := by decide +kernel
theorem dX5_nextSeed_5 : decode cX5_nextSeed 5 = .ok (.lmul, 1) := by decide +kernel
theorem dX5_nextSeed_6 : decode cX5_nextSeed 6 = .ok (.ldc2_w 311, 3) := by decide +kernel
theorem dX5_nextSeed_9 : decode cX5_nextSeed 9 = .ok (.ladd, 1) := by decide +kernel
theorem dX5_nextSeed_10 : decode cX5_nextSeed 10 = .ok (.ldc2_w 313, 3) := by decide +kernel
theorem dX5_nextSeed_13 : decode cX5_nextSeed 13 = .ok (.lrem, 1) := by decide +kernel
theorem dX5_nextSeed_14 : decode cX5_nextSeed 14 = .ok (.l2i, 1) := by decide +kernel
theorem dX5_nextSeed_15 : decode cX5_nextSeed 15 = .ok (.ireturn, 1) := by decide +kernel
theorem dX5_greatestDivisor_0 : decode cX5_greatestDivisor 0 = .ok (.iload_n 0, 1) := by decide +kernel
theorem dX5_greatestDivisor_1 : decode cX5_greatestDivisor 1 = .ok (.istore_n 2, 1) := by decide +kernel
theorem dX5_greatestDivisor_2 : decode cX5_greatestDivisor 2 = .ok (.iload_n 1, 1) := by decide +kernel
theorem dX5_greatestDivisor_3 : decode cX5_greatestDivisor 3 = .ok (.istore_n 3, 1) := by decide +kernel
theorem dX5_greatestDivisor_4 : decode cX5_greatestDivisor 4 = .ok (.iconst 0, 1) := by decide +kernel
theorem dX5_greatestDivisor_5 : decode cX5_greatestDivisor 5 = .ok (.istore 4, 2) := by decide +kernel
theorem dX5_greatestDivisor_7 : decode cX5_greatestDivisor 7 = .ok (.iload 4, 2) := by decide +kernel
theorem dX5_greatestDivisor_9 : decode cX5_greatestDivisor 9 = .ok (.bipush 40, 2) := by decide +kernel
theorem dX5_greatestDivisor_11 : decode cX5_greatestDivisor 11 = .ok (.if_icmp .ge 23, 3) := by decide +kernel
theorem dX5_greatestDivisor_14 : decode cX5_greatestDivisor 14 = .ok (.iload_n 3, 1) := by decide +kernel
theorem dX5_greatestDivisor_15 : decode cX5_greatestDivisor 15 = .ok (.ifCond .eq 19, 3) := by decide +kernel
theorem dX5_greatestDivisor_18 : decode cX5_greatestDivisor 18 = .ok (.iload_n 2, 1) := by decide +kernel
theorem dX5_greatestDivisor_19 : decode cX5_greatestDivisor 19 = .ok (.iload_n 3, 1) := by decide +kernel
theorem dX5_greatestDivisor_20 : decode cX5_greatestDivisor 20 = .ok (.irem, 1) := by decide +kernel
theorem dX5_greatestDivisor_21 : decode cX5_greatestDivisor 21 = .ok (.istore 5, 2) := by decide +kernel
theorem dX5_greatestDivisor_23 : decode cX5_greatestDivisor 23 = .ok (.iload_n 3, 1) := by decide +kernel
theorem dX5_greatestDivisor_24 : decode cX5_greatestDivisor 24 = .ok (.istore_n 2, 1) := by decide +kernel
theorem dX5_greatestDivisor_25 : decode cX5_greatestDivisor 25 = .ok (.iload 5, 2) := by decide +kernel
theorem dX5_greatestDivisor_27 : decode cX5_greatestDivisor 27 = .ok (.istore_n 3, 1) := by decide +kernel
theorem dX5_greatestDivisor_28 : decode cX5_greatestDivisor 28 = .ok (.iinc 4 1, 3) := by decide +kernel
theorem dX5_greatestDivisor_31 : decode cX5_greatestDivisor 31 = .ok (.goto (-24), 3) := by decide +kernel
theorem dX5_greatestDivisor_34 : decode cX5_greatestDivisor 34 = .ok (.iload_n 2, 1) := by decide +kernel
theorem dX5_greatestDivisor_35 : decode cX5_greatestDivisor 35 = .ok (.ireturn, 1) := by decide +kernel
theorem dX6_init_0 : decode cX6_init 0 = .ok (.aload_n 0, 1) := by decide +kernel
theorem dX6_init_1 : decode cX6_init 1 = .ok (.invokespecial 1, 3) := by decide +kernel
theorem dX6_init_4 : decode cX6_init 4 = .ok (.aload_n 0, 1) := by decide +kernel
theorem dX6_init_5 : decode cX6_init 5 = .ok (.iconst 5, 1) := by decide +kernel
theorem dX6_init_6 : decode cX6_init 6 = .ok (.newarray .int, 2) := by decide +kernel
theorem dX6_init_8 : decode cX6_init 8 = .ok (.putfield 7, 3) := by decide +kernel
theorem dX6_init_11 : decode cX6_init 11 = .ok (.aload_n 0, 1) := by decide +kernel
theorem dX6_init_12 : decode cX6_init 12 = .ok (.bipush 6, 2) := by decide +kernel
theorem dX6_init_14 : decode cX6_init 14 = .ok (.newarray .int, 2) := by decide +kernel
theorem dX6_init_16 : decode cX6_init 16 = .ok (.putfield 13, 3) := by decide +kernel
theorem dX6_init_19 : decode cX6_init 19 = .ok (.aload_n 0, 1) := by decide +kernel
theorem dX6_init_20 : decode cX6_init 20 = .ok (.bipush 6, 2) := by decide +kernel
theorem dX6_init_22 : decode cX6_init 22 = .ok (.newarray .int, 2) := by decide +kernel
theorem dX6_init_24 : decode cX6_init 24 = .ok (.putfield 16, 3) := by decide +kernel
theorem dX6_init_27 : decode cX6_init 27 = .ok (.aload_n 0, 1) := by decide +kernel
theorem dX6_init_28 : decode cX6_init 28 = .ok (.bipush 6, 2) := by decide +kernel
theorem dX6_init_30 : decode cX6_init 30 = .ok (.newarray .int, 2) := by decide +kernel
theorem dX6_init_32 : decode cX6_init 32 = .ok (.putfield 19, 3) := by decide +kernel
theorem dX6_init_35 : decode cX6_init 35 = .ok (.aload_n 0, 1) := by decide +kernel
theorem dX6_init_36 : decode cX6_init 36 = .ok (.bipush 22, 2) := by decide +kernel
theorem dX6_init_38 : decode cX6_init 38 = .ok (.newarray .byte, 2) := by decide +kernel
theorem dX6_init_40 : decode cX6_init 40 = .ok (.putfield 22, 3) := by decide +kernel
theorem dX6_init_43 : decode cX6_init 43 = .ok (.aload_n 0, 1) := by decide +kernel
theorem dX6_init_44 : decode cX6_init 44 = .ok (.sipush 720, 3) := by decide +kernel
theorem dX6_init_47 : decode cX6_init 47 = .ok (.newarray .int, 2) := by decide +kernel
theorem dX6_init_49 : decode cX6_init 49 = .ok (.putfield 26, 3) := by decide +kernel
theorem dX6_init_52 : decode cX6_init 52 = .ok (.aload_n 0, 1) := by decide +kernel
theorem dX6_init_53 : decode cX6_init 53 = .ok (.sipush 720, 3) := by decide +kernel
theorem dX6_init_56 : decode cX6_init 56 = .ok (.newarray .int, 2) := by decide +kernel
theorem dX6_init_58 : decode cX6_init 58 = .ok (.putfield 29, 3) := by decide +kernel
theorem dX6_init_61 : decode cX6_init 61 = .ok (.aload_n 0, 1) := by decide +kernel
theorem dX6_init_62 : decode cX6_init 62 = .ok (.sipush 720, 3) := by decide +kernel
theorem dX6_init_65 : decode cX6_init 65 = .ok (.newarray .int, 2) := by decide +kernel
theorem dX6_init_67 : decode cX6_init 67 = .ok (.putfield 32, 3) := by decide +kernel
theorem dX6_init_70 : decode cX6_init 70 = .ok (.aload_n 0, 1) := by decide +kernel
theorem dX6_init_71 : decode cX6_init 71 = .ok (.iconst 5, 1) := by decide +kernel
theorem dX6_init_72 : decode cX6_init 72 = .ok (.newarray .int, 2) := by decide +kernel
theorem dX6_init_74 : decode cX6_init 74 = .ok (.putfield 35, 3) := by decide +kernel
theorem dX6_init_77 : decode cX6_init 77 = .ok (.aload_n 0, 1) := by decide +kernel
theorem dX6_init_78 : decode cX6_init 78 = .ok (.bipush 6, 2) := by decide +kernel
theorem dX6_init_80 : decode cX6_init 80 = .ok (.newarray .int, 2) := by decide +kernel
theorem dX6_init_82 : decode cX6_init 82 = .ok (.putfield 38, 3) := by decide +kernel
theorem dX6_init_85 : decode cX6_init 85 = .ok (.aload_n 0, 1) := by decide +kernel
theorem dX6_init_86 : decode cX6_init 86 = .ok (.bipush 6, 2) := by decide +kernel
theorem dX6_init_88 : decode cX6_init 88 = .ok (.newarray .int, 2) := by decide +kernel
theorem dX6_init_90 : decode cX6_init 90 = .ok (.putfield 41, 3) := by decide +kernel
theorem dX6_init_93 : decode cX6_init 93 = .ok (.aload_n 0, 1) := by decide +kernel
theorem dX6_init_94 : decode cX6_init 94 = .ok (.bipush 6, 2) := by decide +kernel
theorem dX6_init_96 : decode cX6_init 96 = .ok (.newarray .int, 2) := by decide +kernel
theorem dX6_init_98 : decode cX6_init 98 = .ok (.putfield 44, 3) := by decide +kernel
theorem dX6_init_101 : decode cX6_init 101 = .ok (.return_, 1) := by decide +kernel
theorem dX6_within_0 : decode cX6_within 0 = .ok (.iload_n 0, 1) := by decide +kernel
theorem dX6_within_1 : decode cX6_within 1 = .ok (.iload_n 1, 1) := by decide +kernel
theorem dX6_within_2 : decode cX6_within 2 = .ok (.if_icmp .lt 12, 3) := by decide +kernel
theorem dX6_within_5 : decode cX6_within 5 = .ok (.iload_n 0, 1) := by decide +kernel
theorem dX6_within_6 : decode cX6_within 6 = .ok (.iload_n 2, 1) := by decide +kernel
theorem dX6_within_7 : decode cX6_within 7 = .ok (.if_icmp .gt 7, 3) := by decide +kernel
theorem dX6_within_10 : decode cX6_within 10 = .ok (.iconst 1, 1) := by decide +kernel
theorem dX6_within_11 : decode cX6_within 11 = .ok (.goto 4, 3) := by decide +kernel
theorem dX6_within_14 : decode cX6_within 14 = .ok (.iconst 0, 1) := by decide +kernel
theorem dX6_within_15 : decode cX6_within 15 = .ok (.ireturn, 1) := by decide +kernel
theorem dX6_isIn_0 : decode cX6_isIn 0 = .ok (.iload_n 0, 1) := by decide +kernel
theorem dX6_isIn_1 : decode cX6_isIn 1 = .ok (.iload_n 1, 1) := by decide +kernel
theorem dX6_isIn_2 : decode cX6_isIn 2 = .ok (.ishr, 1) := by decide +kernel
theorem dX6_isIn_3 : decode cX6_isIn 3 = .ok (.iconst 1, 1) := by decide +kernel
theorem dX6_isIn_4 : decode cX6_isIn 4 = .ok (.iand, 1) := by decide +kernel
theorem dX6_isIn_5 : decode cX6_isIn 5 = .ok (.iconst 1, 1) := by decide +kernel
theorem dX6_isIn_6 : decode cX6_isIn 6 = .ok (.if_icmp .ne 7, 3) := by decide +kernel
theorem dX6_isIn_9 : decode cX6_isIn 9 = .ok (.iconst 1, 1) := by decide +kernel
theorem dX6_isIn_10 : decode cX6_isIn 10 = .ok (.goto 4, 3) := by decide +kernel
theorem dX6_isIn_13 : decode cX6_isIn 13 = .ok (.iconst 0, 1) := by decide +kernel
theorem dX6_isIn_14 : decode cX6_isIn 14 = .ok (.ireturn, 1) := by decide +kernel
theorem dX6_size_0 : decode cX6_size 0 = .ok (.iconst 0, 1) := by decide +kernel
theorem dX6_size_1 : decode cX6_size 1 = .ok (.istore_n 1, 1) := by decide +kernel
theorem dX6_size_2 : decode cX6_size 2 = .ok (.iconst 0, 1) := by decide +kernel
theorem dX6_size_3 : decode cX6_size 3 = .ok (.istore_n 2, 1) := by decide +kernel
theorem dX6_size_4 : decode cX6_size 4 = .ok (.iload_n 2, 1) := by decide +kernel
theorem dX6_size_5 : decode cX6_size 5 = .ok (.bipush 6, 2) := by decide +kernel
theorem dX6_size_7 : decode cX6_size 7 = .ok (.if_icmp .ge 17, 3) := by decide +kernel
theorem dX6_size_10 : decode cX6_size 10 = .ok (.iload_n 1, 1) := by decide +kernel
theorem dX6_size_11 : decode cX6_size 11 = .ok (.iload_n 0, 1) := by decide +kernel
theorem dX6_size_12 : decode cX6_size 12 = .ok (.iload_n 2, 1) := by decide +kernel
theorem dX6_size_13 : decode cX6_size 13 = .ok (.ishr, 1) := by decide +kernel
theorem dX6_size_14 : decode cX6_size 14 = .ok (.iconst 1, 1) := by decide +kernel
theorem dX6_size_15 : decode cX6_size 15 = .ok (.iand, 1) := by decide +kernel
theorem dX6_size_16 : decode cX6_size 16 = .ok (.iadd, 1) := by decide +kernel
theorem dX6_size_17 : decode cX6_size 17 = .ok (.istore_n 1, 1) := by decide +kernel
theorem dX6_size_18 : decode cX6_size 18 = .ok (.iinc 2 1, 3) := by decide +kernel
theorem dX6_size_21 : decode cX6_size 21 = .ok (.goto (-17), 3) := by decide +kernel
theorem dX6_size_24 : decode cX6_size 24 = .ok (.iload_n 1, 1) := by decide +kernel
theorem dX6_size_25 : decode cX6_size 25 = .ok (.ireturn, 1) := by decide +kernel
theorem dX6_divisor_0 : decode cX6_divisor 0 = .ok (.iload_n 0, 1) := by decide +kernel
theorem dX6_divisor_1 : decode cX6_divisor 1 = .ok (.istore_n 2, 1) := by decide +kernel
theorem dX6_divisor_2 : decode cX6_divisor 2 = .ok (.iload_n 1, 1) := by decide +kernel
theorem dX6_divisor_3 : decode cX6_divisor 3 = .ok (.istore_n 3, 1) := by decide +kernel
theorem dX6_divisor_4 : decode cX6_divisor 4 = .ok (.iload_n 3, 1) := by decide +kernel
theorem dX6_divisor_5 : decode cX6_divisor 5 = .ok (.ifCond .eq 16, 3) := by decide +kernel
theorem dX6_divisor_8 : decode cX6_divisor 8 = .ok (.iload_n 2, 1) := by decide +kernel
theorem dX6_divisor_9 : decode cX6_divisor 9 = .ok (.iload_n 3, 1) := by decide +kernel
theorem dX6_divisor_10 : decode cX6_divisor 10 = .ok (.irem, 1) := by decide +kernel
theorem dX6_divisor_11 : decode cX6_divisor 11 = .ok (.istore 4, 2) := by decide +kernel
theorem dX6_divisor_13 : decode cX6_divisor 13 = .ok (.iload_n 3, 1) := by decide +kernel
theorem dX6_divisor_14 : decode cX6_divisor 14 = .ok (.istore_n 2, 1) := by decide +kernel
theorem dX6_divisor_15 : decode cX6_divisor 15 = .ok (.iload 4, 2) := by decide +kernel
theorem dX6_divisor_17 : decode cX6_divisor 17 = .ok (.istore_n 3, 1) := by decide +kernel
theorem dX6_divisor_18 : decode cX6_divisor 18 = .ok (.goto (-14), 3) := by decide +kernel
theorem dX6_divisor_21 : decode cX6_divisor 21 = .ok (.iload_n 2, 1) := by decide +kernel
theorem dX6_divisor_22 : decode cX6_divisor 22 = .ok (.ireturn, 1) := by decide +kernel
theorem dX6_letter_0 : decode cX6_letter 0 = .ok (.iload_n 1, 1) := by decide +kernel
theorem dX6_letter_1 : decode cX6_letter 1 = .ok (.bipush 32, 2) := by decide +kernel
theorem dX6_letter_3 : decode cX6_letter 3 = .ok (.bipush 126, 2) := by decide +kernel
theorem dX6_letter_5 : decode cX6_letter 5 = .ok (.invokestatic 47, 3) := by decide +kernel
theorem dX6_letter_8 : decode cX6_letter 8 = .ok (.ifCond .ne 6, 3) := by decide +kernel
theorem dX6_letter_11 : decode cX6_letter 11 = .ok (.bipush (-102), 2) := by decide +kernel
theorem dX6_letter_13 : decode cX6_letter 13 = .ok (.ireturn, 1) := by decide +kernel
theorem dX6_letter_14 : decode cX6_letter 14 = .ok (.aload_n 0, 1) := by decide +kernel
theorem dX6_letter_15 : decode cX6_letter 15 = .ok (.getfield 51, 3) := by decide +kernel
theorem dX6_letter_18 : decode cX6_letter 18 = .ok (.bipush 22, 2) := by decide +kernel
theorem dX6_letter_20 : decode cX6_letter 20 = .ok (.if_icmp .ne 6, 3) := by decide +kernel
theorem dX6_letter_23 : decode cX6_letter 23 = .ok (.bipush (-104), 2) := by decide +kernel
theorem dX6_letter_25 : decode cX6_letter 25 = .ok (.ireturn, 1) := by decide +kernel
theorem dX6_letter_26 : decode cX6_letter 26 = .ok (.aload_n 0, 1) := by decide +kernel
theorem dX6_letter_27 : decode cX6_letter 27 = .ok (.getfield 22, 3) := by decide +kernel
theorem dX6_letter_30 : decode cX6_letter 30 = .ok (.aload_n 0, 1) := by decide +kernel
theorem dX6_letter_31 : decode cX6_letter 31 = .ok (.getfield 51, 3) := by decide +kernel
theorem dX6_letter_34 : decode cX6_letter 34 = .ok (.iload_n 1, 1) := by decide +kernel
theorem dX6_letter_35 : decode cX6_letter 35 = .ok (.i2b, 1) := by decide +kernel
theorem dX6_letter_36 : decode cX6_letter 36 = .ok (.bastore, 1) := by decide +kernel
theorem dX6_letter_37 : decode cX6_letter 37 = .ok (.aload_n 0, 1) := by decide +kernel
theorem dX6_letter_38 : decode cX6_letter 38 = .ok (.dup, 1) := by decide +kernel
theorem dX6_letter_39 : decode cX6_letter 39 = .ok (.getfield 51, 3) := by decide +kernel
theorem dX6_letter_42 : decode cX6_letter 42 = .ok (.iconst 1, 1) := by decide +kernel
theorem dX6_letter_43 : decode cX6_letter 43 = .ok (.iadd, 1) := by decide +kernel
theorem dX6_letter_44 : decode cX6_letter 44 = .ok (.putfield 51, 3) := by decide +kernel
theorem dX6_letter_47 : decode cX6_letter 47 = .ok (.aload_n 0, 1) := by decide +kernel
theorem dX6_letter_48 : decode cX6_letter 48 = .ok (.getfield 51, 3) := by decide +kernel
theorem dX6_letter_51 : decode cX6_letter 51 = .ok (.ireturn, 1) := by decide +kernel
theorem dX6_blank_0 : decode cX6_blank 0 = .ok (.aload_n 0, 1) := by decide +kernel
theorem dX6_blank_1 : decode cX6_blank 1 = .ok (.getfield 51, 3) := by decide +kernel
theorem dX6_blank_4 : decode cX6_blank 4 = .ok (.istore_n 1, 1) := by decide +kernel
theorem dX6_blank_5 : decode cX6_blank 5 = .ok (.aload_n 0, 1) := by decide +kernel
theorem dX6_blank_6 : decode cX6_blank 6 = .ok (.iconst 0, 1) := by decide +kernel
theorem dX6_blank_7 : decode cX6_blank 7 = .ok (.putfield 51, 3) := by decide +kernel
theorem dX6_blank_10 : decode cX6_blank 10 = .ok (.iload_n 1, 1) := by decide +kernel
theorem dX6_blank_11 : decode cX6_blank 11 = .ok (.ireturn, 1) := by decide +kernel
theorem dX6_kindBy_0 : decode cX6_kindBy 0 = .ok (.iload_n 0, 1) := by decide +kernel
theorem dX6_kindBy_1 : decode cX6_kindBy 1 = .ok (.tableswitch 77 104 116 #[69, 77, 77, 77, 77, 77, 71, 75, 77, 77, 77, 73, 67], 67) := by decide +kernel
theorem dX6_kindBy_68 : decode cX6_kindBy 68 = .ok (.iconst 0, 1) := by decide +kernel
theorem dX6_kindBy_69 : decode cX6_kindBy 69 = .ok (.ireturn, 1) := by decide +kernel
theorem dX6_kindBy_70 : decode cX6_kindBy 70 = .ok (.iconst 1, 1) := by decide +kernel
theorem dX6_kindBy_71 : decode cX6_kindBy 71 = .ok (.ireturn, 1) := by decide +kernel
theorem dX6_kindBy_72 : decode cX6_kindBy 72 = .ok (.iconst 2, 1) := by decide +kernel
theorem dX6_kindBy_73 : decode cX6_kindBy 73 = .ok (.ireturn, 1) := by decide +kernel
theorem dX6_kindBy_74 : decode cX6_kindBy 74 = .ok (.iconst 3, 1) := by decide +kernel
theorem dX6_kindBy_75 : decode cX6_kindBy 75 = .ok (.ireturn, 1) := by decide +kernel
theorem dX6_kindBy_76 : decode cX6_kindBy 76 = .ok (.iconst 4, 1) := by decide +kernel
theorem dX6_kindBy_77 : decode cX6_kindBy 77 = .ok (.ireturn, 1) := by decide +kernel
theorem dX6_kindBy_78 : decode cX6_kindBy 78 = .ok (.iconst (-1), 1) := by decide +kernel
theorem dX6_kindBy_79 : decode cX6_kindBy 79 = .ok (.ireturn, 1) := by decide +kernel
theorem dX6_at_0 : decode cX6_at 0 = .ok (.iload_n 1, 1) := by decide +kernel
theorem dX6_at_1 : decode cX6_at 1 = .ok (.aload_n 0, 1) := by decide +kernel
theorem dX6_at_2 : decode cX6_at 2 = .ok (.getfield 51, 3) := by decide +kernel
theorem dX6_at_5 : decode cX6_at 5 = .ok (.if_icmp .ge 12, 3) := by decide +kernel
theorem dX6_at_8 : decode cX6_at 8 = .ok (.aload_n 0, 1) := by decide +kernel
theorem dX6_at_9 : decode cX6_at 9 = .ok (.getfield 22, 3) := by decide +kernel
theorem dX6_at_12 : decode cX6_at 12 = .ok (.iload_n 1, 1) := by decide +kernel
theorem dX6_at_13 : decode cX6_at 13 = .ok (.baload, 1) := by decide +kernel
theorem dX6_at_14 : decode cX6_at 14 = .ok (.goto 4, 3) := by decide +kernel
theorem dX6_at_17 : decode cX6_at 17 = .ok (.iconst 0, 1) := by decide +kernel
theorem dX6_at_18 : decode cX6_at 18 = .ok (.ireturn, 1) := by decide +kernel
theorem dX6_signAt_0 : decode cX6_signAt 0 = .ok (.aload_n 0, 1) := by decide +kernel
theorem dX6_signAt_1 : decode cX6_signAt 1 = .ok (.iload_n 1, 1) := by decide +kernel
theorem dX6_signAt_2 : decode cX6_signAt 2 = .ok (.invokevirtual 55, 3) := by decide +kernel
theorem dX6_signAt_5 : decode cX6_signAt 5 = .ok (.istore_n 2, 1) := by decide +kernel
theorem dX6_signAt_6 : decode cX6_signAt 6 = .ok (.iload_n 2, 1) := by decide +kernel
theorem dX6_signAt_7 : decode cX6_signAt 7 = .ok (.bipush 46, 2) := by decide +kernel
theorem dX6_signAt_9 : decode cX6_signAt 9 = .ok (.if_icmp .ne 7, 3) := by decide +kernel
theorem dX6_signAt_12 : decode cX6_signAt 12 = .ok (.iconst 5, 1) := by decide +kernel
theorem dX6_signAt_13 : decode cX6_signAt 13 = .ok (.goto 23, 3) := by decide +kernel
theorem dX6_signAt_16 : decode cX6_signAt 16 = .ok (.iload_n 2, 1) := by decide +kernel
theorem dX6_signAt_17 : decode cX6_signAt 17 = .ok (.bipush 48, 2) := by decide +kernel
theorem dX6_signAt_19 : decode cX6_signAt 19 = .ok (.isub, 1) := by decide +kernel
theorem dX6_signAt_20 : decode cX6_signAt 20 = .ok (.iconst 0, 1) := by decide +kernel
theorem dX6_signAt_21 : decode cX6_signAt 21 = .ok (.iconst 4, 1) := by decide +kernel
theorem dX6_signAt_22 : decode cX6_signAt 22 = .ok (.invokestatic 47, 3) := by decide +kernel
theorem dX6_signAt_25 : decode cX6_signAt 25 = .ok (.ifCond .eq 10, 3) := by decide +kernel
theorem dX6_signAt_28 : decode cX6_signAt 28 = .ok (.iload_n 2, 1) := by decide +kernel
theorem dX6_signAt_29 : decode cX6_signAt 29 = .ok (.bipush 48, 2) := by decide +kernel
theorem dX6_signAt_31 : decode cX6_signAt 31 = .ok (.isub, 1) := by decide +kernel
theorem dX6_signAt_32 : decode cX6_signAt 32 = .ok (.goto 4, 3) := by decide +kernel
theorem dX6_signAt_35 : decode cX6_signAt 35 = .ok (.iconst (-1), 1) := by decide +kernel
theorem dX6_signAt_36 : decode cX6_signAt 36 = .ok (.ireturn, 1) := by decide +kernel
theorem dX6_readCells_0 : decode cX6_readCells 0 = .ok (.iconst 0, 1) := by decide +kernel
theorem dX6_readCells_1 : decode cX6_readCells 1 = .ok (.istore_n 2, 1) := by decide +kernel
theorem dX6_readCells_2 : decode cX6_readCells 2 = .ok (.iload_n 1, 1) := by decide +kernel
theorem dX6_readCells_3 : decode cX6_readCells 3 = .ok (.istore_n 3, 1) := by decide +kernel
theorem dX6_readCells_4 : decode cX6_readCells 4 = .ok (.iload_n 3, 1) := by decide +kernel
theorem dX6_readCells_5 : decode cX6_readCells 5 = .ok (.iload_n 1, 1) := by decide +kernel
theorem dX6_readCells_6 : decode cX6_readCells 6 = .ok (.bipush 6, 2) := by decide +kernel
theorem dX6_readCells_8 : decode cX6_readCells 8 = .ok (.iadd, 1) := by decide +kernel
theorem dX6_readCells_9 : decode cX6_readCells 9 = .ok (.if_icmp .ge 40, 3) := by decide +kernel
theorem dX6_readCells_12 : decode cX6_readCells 12 = .ok (.aload_n 0, 1) := by decide +kernel
theorem dX6_readCells_13 : decode cX6_readCells 13 = .ok (.iload_n 3, 1) := by decide +kernel
theorem dX6_readCells_14 : decode cX6_readCells 14 = .ok (.invokevirtual 59, 3) := by decide +kernel
theorem dX6_readCells_17 : decode cX6_readCells 17 = .ok (.istore 4, 2) := by decide +kernel
theorem dX6_readCells_19 : decode cX6_readCells 19 = .ok (.iload 4, 2) := by decide +kernel
theorem dX6_readCells_21 : decode cX6_readCells 21 = .ok (.iconst (-1), 1) := by decide +kernel
theorem dX6_readCells_22 : decode cX6_readCells 22 = .ok (.if_icmp .eq 12, 3) := by decide +kernel
theorem dX6_readCells_25 : decode cX6_readCells 25 = .ok (.iload_n 2, 1) := by decide +kernel
theorem dX6_readCells_26 : decode cX6_readCells 26 = .ok (.iload 4, 2) := by decide +kernel
theorem dX6_readCells_28 : decode cX6_readCells 28 = .ok (.invokestatic 62, 3) := by decide +kernel
theorem dX6_readCells_31 : decode cX6_readCells 31 = .ok (.ifCond .eq 5, 3) := by decide +kernel
theorem dX6_readCells_34 : decode cX6_readCells 34 = .ok (.iload_n 3, 1) := by decide +kernel
theorem dX6_readCells_35 : decode cX6_readCells 35 = .ok (.ireturn, 1) := by decide +kernel
theorem dX6_readCells_36 : decode cX6_readCells 36 = .ok (.iload_n 2, 1) := by decide +kernel
theorem dX6_readCells_37 : decode cX6_readCells 37 = .ok (.iconst 1, 1) := by decide +kernel
theorem dX6_readCells_38 : decode cX6_readCells 38 = .ok (.iload 4, 2) := by decide +kernel
theorem dX6_readCells_40 : decode cX6_readCells 40 = .ok (.ishl, 1) := by decide +kernel
theorem dX6_readCells_41 : decode cX6_readCells 41 = .ok (.ior, 1) := by decide +kernel
theorem dX6_readCells_42 : decode cX6_readCells 42 = .ok (.istore_n 2, 1) := by decide +kernel
theorem dX6_readCells_43 : decode cX6_readCells 43 = .ok (.iinc 3 1, 3) := by decide +kernel
theorem dX6_readCells_46 : decode cX6_readCells 46 = .ok (.goto (-42), 3) := by decide +kernel
theorem dX6_readCells_49 : decode cX6_readCells 49 = .ok (.iload_n 3, 1) := by decide +kernel
theorem dX6_readCells_50 : decode cX6_readCells 50 = .ok (.ireturn, 1) := by decide +kernel
theorem dX6_read_0 : decode cX6_read 0 = .ok (.aload_n 0, 1) := by decide +kernel
theorem dX6_read_1 : decode cX6_read 1 = .ok (.iconst 0, 1) := by decide +kernel
theorem dX6_read_2 : decode cX6_read 2 = .ok (.putfield 66, 3) := by decide +kernel
theorem dX6_read_5 : decode cX6_read 5 = .ok (.aload_n 0, 1) := by decide +kernel
theorem dX6_read_6 : decode cX6_read 6 = .ok (.iconst 0, 1) := by decide +kernel
theorem dX6_read_7 : decode cX6_read 7 = .ok (.invokevirtual 70, 3) := by decide +kernel
theorem dX6_read_10 : decode cX6_read 10 = .ok (.istore_n 1, 1) := by decide +kernel
theorem dX6_read_11 : decode cX6_read 11 = .ok (.iload_n 1, 1) := by decide +kernel
theorem dX6_read_12 : decode cX6_read 12 = .ok (.bipush 6, 2) := by decide +kernel
theorem dX6_read_14 : decode cX6_read 14 = .ok (.if_icmp .lt 14, 3) := by decide +kernel
theorem dX6_read_17 : decode cX6_read 17 = .ok (.aload_n 0, 1) := by decide +kernel
theorem dX6_read_18 : decode cX6_read 18 = .ok (.bipush 6, 2) := by decide +kernel
theorem dX6_read_20 : decode cX6_read 20 = .ok (.invokevirtual 55, 3) := by decide +kernel
theorem dX6_read_23 : decode cX6_read 23 = .ok (.bipush 59, 2) := by decide +kernel
theorem dX6_read_25 : decode cX6_read 25 = .ok (.if_icmp .eq 5, 3) := by decide +kernel
theorem dX6_read_28 : decode cX6_read 28 = .ok (.iload_n 1, 1) := by decide +kernel
theorem dX6_read_29 : decode cX6_read 29 = .ok (.ireturn, 1) := by decide +kernel
theorem dX6_read_30 : decode cX6_read 30 = .ok (.bipush 7, 2) := by decide +kernel
theorem dX6_read_32 : decode cX6_read 32 = .ok (.istore_n 1, 1) := by decide +kernel
theorem dX6_read_33 : decode cX6_read 33 = .ok (.iload_n 1, 1) := by decide +kernel
theorem dX6_read_34 : decode cX6_read 34 = .ok (.bipush 12, 2) := by decide +kernel
theorem dX6_read_36 : decode cX6_read 36 = .ok (.if_icmp .ge 23, 3) := by decide +kernel
theorem dX6_read_39 : decode cX6_read 39 = .ok (.aload_n 0, 1) := by decide +kernel
theorem dX6_read_40 : decode cX6_read 40 = .ok (.iload_n 1, 1) := by decide +kernel
theorem dX6_read_41 : decode cX6_read 41 = .ok (.invokevirtual 55, 3) := by decide +kernel
theorem dX6_read_44 : decode cX6_read 44 = .ok (.invokestatic 73, 3) := by decide +kernel
theorem dX6_read_47 : decode cX6_read 47 = .ok (.iconst (-1), 1) := by decide +kernel
theorem dX6_read_48 : decode cX6_read 48 = .ok (.if_icmp .ne 5, 3) := by decide +kernel
theorem dX6_read_51 : decode cX6_read 51 = .ok (.iload_n 1, 1) := by decide +kernel
theorem dX6_read_52 : decode cX6_read 52 = .ok (.ireturn, 1) := by decide +kernel
theorem dX6_read_53 : decode cX6_read 53 = .ok (.iinc 1 1, 3) := by decide +kernel
theorem dX6_read_56 : decode cX6_read 56 = .ok (.goto (-23), 3) := by decide +kernel
theorem dX6_read_59 : decode cX6_read 59 = .ok (.aload_n 0, 1) := by decide +kernel
theorem dX6_read_60 : decode cX6_read 60 = .ok (.bipush 12, 2) := by decide +kernel
theorem dX6_read_62 : decode cX6_read 62 = .ok (.invokevirtual 55, 3) := by decide +kernel
theorem dX6_read_65 : decode cX6_read 65 = .ok (.bipush 59, 2) := by decide +kernel
theorem dX6_read_67 : decode cX6_read 67 = .ok (.if_icmp .eq 6, 3) := by decide +kernel
theorem dX6_read_70 : decode cX6_read 70 = .ok (.bipush 12, 2) := by decide +kernel
theorem dX6_read_72 : decode cX6_read 72 = .ok (.ireturn, 1) := by decide +kernel
theorem dX6_read_73 : decode cX6_read 73 = .ok (.aload_n 0, 1) := by decide +kernel
theorem dX6_read_74 : decode cX6_read 74 = .ok (.bipush 13, 2) := by decide +kernel
theorem dX6_read_76 : decode cX6_read 76 = .ok (.invokevirtual 70, 3) := by decide +kernel
theorem dX6_read_79 : decode cX6_read 79 = .ok (.istore_n 1, 1) := by decide +kernel
theorem dX6_read_80 : decode cX6_read 80 = .ok (.aload_n 0, 1) := by decide +kernel
theorem dX6_read_81 : decode cX6_read 81 = .ok (.iload_n 1, 1) := by decide +kernel
theorem dX6_read_82 : decode cX6_read 82 = .ok (.bipush 19, 2) := by decide +kernel
theorem dX6_read_84 : decode cX6_read 84 = .ok (.if_icmp .ne 16, 3) := by decide +kernel
theorem dX6_read_87 : decode cX6_read 87 = .ok (.aload_n 0, 1) := by decide +kernel
theorem dX6_read_88 : decode cX6_read 88 = .ok (.getfield 51, 3) := by decide +kernel
theorem dX6_read_91 : decode cX6_read 91 = .ok (.bipush 19, 2) := by decide +kernel
theorem dX6_read_93 : decode cX6_read 93 = .ok (.if_icmp .ne 7, 3) := by decide +kernel
theorem dX6_read_96 : decode cX6_read 96 = .ok (.iconst 1, 1) := by decide +kernel
theorem dX6_read_97 : decode cX6_read 97 = .ok (.goto 4, 3) := by decide +kernel
