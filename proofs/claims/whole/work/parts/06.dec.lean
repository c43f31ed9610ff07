theorem dX6_sortsOf_57 : decode cX6_sortsOf 57 = .ok (.iaload, 1) := by decide +kernel
theorem dX6_sortsOf_58 : decode cX6_sortsOf 58 = .ok (.if_icmp .ne 7, 3) := by decide +kernel
theorem dX6_sortsOf_61 : decode cX6_sortsOf 61 = .ok (.iconst 1, 1) := by decide +kernel
theorem dX6_sortsOf_62 : decode cX6_sortsOf 62 = .ok (.goto 4, 3) := by decide +kernel
theorem dX6_sortsOf_65 : decode cX6_sortsOf 65 = .ok (.iconst 0, 1) := by decide +kernel
theorem dX6_sortsOf_66 : decode cX6_sortsOf 66 = .ok (.istore 4, 2) := by decide +kernel
theorem dX6_sortsOf_68 : decode cX6_sortsOf 68 = .ok (.iinc 5 1, 3) := by decide +kernel
theorem dX6_sortsOf_71 : decode cX6_sortsOf 71 = .ok (.goto (-56), 3) := by decide +kernel
theorem dX6_sortsOf_74 : decode cX6_sortsOf 74 = .ok (.iload_n 2, 1) := by decide +kernel
theorem dX6_sortsOf_75 : decode cX6_sortsOf 75 = .ok (.iload 4, 2) := by decide +kernel
theorem dX6_sortsOf_77 : decode cX6_sortsOf 77 = .ok (.ifCond .eq 9, 3) := by decide +kernel
theorem dX6_sortsOf_80 : decode cX6_sortsOf 80 = .ok (.iconst 1, 1) := by decide +kernel
theorem dX6_sortsOf_81 : decode cX6_sortsOf 81 = .ok (.iload_n 3, 1) := by decide +kernel
theorem dX6_sortsOf_82 : decode cX6_sortsOf 82 = .ok (.ishl, 1) := by decide +kernel
theorem dX6_sortsOf_83 : decode cX6_sortsOf 83 = .ok (.goto 4, 3) := by decide +kernel
theorem dX6_sortsOf_86 : decode cX6_sortsOf 86 = .ok (.iconst 0, 1) := by decide +kernel
theorem dX6_sortsOf_87 : decode cX6_sortsOf 87 = .ok (.ior, 1) := by decide +kernel
theorem dX6_sortsOf_88 : decode cX6_sortsOf 88 = .ok (.istore_n 2, 1) := by decide +kernel
theorem dX6_sortsOf_89 : decode cX6_sortsOf 89 = .ok (.iinc 3 1, 3) := by decide +kernel
theorem dX6_sortsOf_92 : decode cX6_sortsOf 92 = .ok (.goto (-88), 3) := by decide +kernel
theorem dX6_sortsOf_95 : decode cX6_sortsOf 95 = .ok (.iload_n 2, 1) := by decide +kernel
theorem dX6_sortsOf_96 : decode cX6_sortsOf 96 = .ok (.ireturn, 1) := by decide +kernel
theorem dX6_worstBy_0 : decode cX6_worstBy 0 = .ok (.iconst 0, 1) := by decide +kernel
theorem dX6_worstBy_1 : decode cX6_worstBy 1 = .ok (.istore_n 2, 1) := by decide +kernel
theorem dX6_worstBy_2 : decode cX6_worstBy 2 = .ok (.iconst 0, 1) := by decide +kernel
theorem dX6_worstBy_3 : decode cX6_worstBy 3 = .ok (.istore_n 3, 1) := by decide +kernel
theorem dX6_worstBy_4 : decode cX6_worstBy 4 = .ok (.iload_n 3, 1) := by decide +kernel
theorem dX6_worstBy_5 : decode cX6_worstBy 5 = .ok (.iconst 3, 1) := by decide +kernel
theorem dX6_worstBy_6 : decode cX6_worstBy 6 = .ok (.if_icmp .gt 69, 3) := by decide +kernel
theorem dX6_worstBy_9 : decode cX6_worstBy 9 = .ok (.iconst 0, 1) := by decide +kernel
theorem dX6_worstBy_10 : decode cX6_worstBy 10 = .ok (.istore 4, 2) := by decide +kernel
theorem dX6_worstBy_12 : decode cX6_worstBy 12 = .ok (.iconst 0, 1) := by decide +kernel
theorem dX6_worstBy_13 : decode cX6_worstBy 13 = .ok (.istore 5, 2) := by decide +kernel
theorem dX6_worstBy_15 : decode cX6_worstBy 15 = .ok (.iload 5, 2) := by decide +kernel
theorem dX6_worstBy_17 : decode cX6_worstBy 17 = .ok (.iconst 4, 1) := by decide +kernel
theorem dX6_worstBy_18 : decode cX6_worstBy 18 = .ok (.if_icmp .gt 38, 3) := by decide +kernel
theorem dX6_worstBy_21 : decode cX6_worstBy 21 = .ok (.iload 4, 2) := by decide +kernel
theorem dX6_worstBy_23 : decode cX6_worstBy 23 = .ok (.iload_n 0, 1) := by decide +kernel
theorem dX6_worstBy_24 : decode cX6_worstBy 24 = .ok (.iload 5, 2) := by decide +kernel
theorem dX6_worstBy_26 : decode cX6_worstBy 26 = .ok (.invokestatic 62, 3) := by decide +kernel
theorem dX6_worstBy_29 : decode cX6_worstBy 29 = .ok (.ifCond .eq 17, 3) := by decide +kernel
theorem dX6_worstBy_32 : decode cX6_worstBy 32 = .ok (.iload 5, 2) := by decide +kernel
theorem dX6_worstBy_34 : decode cX6_worstBy 34 = .ok (.iload_n 1, 1) := by decide +kernel
theorem dX6_worstBy_35 : decode cX6_worstBy 35 = .ok (.invokestatic 114, 3) := by decide +kernel
theorem dX6_worstBy_38 : decode cX6_worstBy 38 = .ok (.iload_n 3, 1) := by decide +kernel
theorem dX6_worstBy_39 : decode cX6_worstBy 39 = .ok (.if_icmp .ne 7, 3) := by decide +kernel
theorem dX6_worstBy_42 : decode cX6_worstBy 42 = .ok (.iconst 1, 1) := by decide +kernel
theorem dX6_worstBy_43 : decode cX6_worstBy 43 = .ok (.goto 4, 3) := by decide +kernel
theorem dX6_worstBy_46 : decode cX6_worstBy 46 = .ok (.iconst 0, 1) := by decide +kernel
theorem dX6_worstBy_47 : decode cX6_worstBy 47 = .ok (.iadd, 1) := by decide +kernel
theorem dX6_worstBy_48 : decode cX6_worstBy 48 = .ok (.istore 4, 2) := by decide +kernel
theorem dX6_worstBy_50 : decode cX6_worstBy 50 = .ok (.iinc 5 1, 3) := by decide +kernel
theorem dX6_worstBy_53 : decode cX6_worstBy 53 = .ok (.goto (-38), 3) := by decide +kernel
theorem dX6_worstBy_56 : decode cX6_worstBy 56 = .ok (.iload 4, 2) := by decide +kernel
theorem dX6_worstBy_58 : decode cX6_worstBy 58 = .ok (.iload_n 2, 1) := by decide +kernel
theorem dX6_worstBy_59 : decode cX6_worstBy 59 = .ok (.if_icmp .le 8, 3) := by decide +kernel
theorem dX6_worstBy_62 : decode cX6_worstBy 62 = .ok (.iload 4, 2) := by decide +kernel
theorem dX6_worstBy_64 : decode cX6_worstBy 64 = .ok (.goto 4, 3) := by decide +kernel
theorem dX6_worstBy_67 : decode cX6_worstBy 67 = .ok (.iload_n 2, 1) := by decide +kernel
theorem dX6_worstBy_68 : decode cX6_worstBy 68 = .ok (.istore_n 2, 1) := by decide +kernel
theorem dX6_worstBy_69 : decode cX6_worstBy 69 = .ok (.iinc 3 1, 3) := by decide +kernel
theorem dX6_worstBy_72 : decode cX6_worstBy 72 = .ok (.goto (-68), 3) := by decide +kernel
theorem dX6_worstBy_75 : decode cX6_worstBy 75 = .ok (.iload_n 2, 1) := by decide +kernel
theorem dX6_worstBy_76 : decode cX6_worstBy 76 = .ok (.ireturn, 1) := by decide +kernel
theorem dX6_wayFor_0 : decode cX6_wayFor 0 = .ok (.aload_n 0, 1) := by decide +kernel
theorem dX6_wayFor_1 : decode cX6_wayFor 1 = .ok (.iload_n 1, 1) := by decide +kernel
theorem dX6_wayFor_2 : decode cX6_wayFor 2 = .ok (.invokevirtual 124, 3) := by decide +kernel
theorem dX6_wayFor_5 : decode cX6_wayFor 5 = .ok (.istore_n 2, 1) := by decide +kernel
theorem dX6_wayFor_6 : decode cX6_wayFor 6 = .ok (.iload_n 2, 1) := by decide +kernel
theorem dX6_wayFor_7 : decode cX6_wayFor 7 = .ok (.ifCond .ne 7, 3) := by decide +kernel
theorem dX6_wayFor_10 : decode cX6_wayFor 10 = .ok (.iconst (-1), 1) := by decide +kernel
theorem dX6_wayFor_11 : decode cX6_wayFor 11 = .ok (.goto 21, 3) := by decide +kernel
theorem dX6_wayFor_14 : decode cX6_wayFor 14 = .ok (.iload_n 2, 1) := by decide +kernel
theorem dX6_wayFor_15 : decode cX6_wayFor 15 = .ok (.iconst 1, 1) := by decide +kernel
theorem dX6_wayFor_16 : decode cX6_wayFor 16 = .ok (.invokestatic 204, 3) := by decide +kernel
theorem dX6_wayFor_19 : decode cX6_wayFor 19 = .ok (.iload_n 2, 1) := by decide +kernel
theorem dX6_wayFor_20 : decode cX6_wayFor 20 = .ok (.iconst 0, 1) := by decide +kernel
theorem dX6_wayFor_21 : decode cX6_wayFor 21 = .ok (.invokestatic 204, 3) := by decide +kernel
theorem dX6_wayFor_24 : decode cX6_wayFor 24 = .ok (.if_icmp .ge 7, 3) := by decide +kernel
theorem dX6_wayFor_27 : decode cX6_wayFor 27 = .ok (.iconst 1, 1) := by decide +kernel
theorem dX6_wayFor_28 : decode cX6_wayFor 28 = .ok (.goto 4, 3) := by decide +kernel
theorem dX6_wayFor_31 : decode cX6_wayFor 31 = .ok (.iconst 0, 1) := by decide +kernel
theorem dX6_wayFor_32 : decode cX6_wayFor 32 = .ok (.ireturn, 1) := by decide +kernel
theorem dX6_draw_0 : decode cX6_draw 0 = .ok (.aload_n 0, 1) := by decide +kernel
theorem dX6_draw_1 : decode cX6_draw 1 = .ok (.ldc2_w 207, 3) := by decide +kernel
theorem dX6_draw_4 : decode cX6_draw 4 = .ok (.aload_n 0, 1) := by decide +kernel
theorem dX6_draw_5 : decode cX6_draw 5 = .ok (.getfield 209, 3) := by decide +kernel
theorem dX6_draw_8 : decode cX6_draw 8 = .ok (.lmul, 1) := by decide +kernel
theorem dX6_draw_9 : decode cX6_draw 9 = .ok (.ldc2_w 213, 3) := by decide +kernel
theorem dX6_draw_12 : decode cX6_draw 12 = .ok (.ladd, 1) := by decide +kernel
theorem dX6_draw_13 : decode cX6_draw 13 = .ok (.ldc2_w 215, 3) := by decide +kernel
theorem dX6_draw_16 : decode cX6_draw 16 = .ok (.land, 1) := by decide +kernel
theorem dX6_draw_17 : decode cX6_draw 17 = .ok (.putfield 209, 3) := by decide +kernel
theorem dX6_draw_20 : decode cX6_draw 20 = .ok (.aload_n 0, 1) := by decide +kernel
theorem dX6_draw_21 : decode cX6_draw 21 = .ok (.getfield 209, 3) := by decide +kernel
theorem dX6_draw_24 : decode cX6_draw 24 = .ok (.ldc2_w 217, 3) := by decide +kernel
theorem dX6_draw_27 : decode cX6_draw 27 = .ok (.ldiv, 1) := by decide +kernel
theorem dX6_draw_28 : decode cX6_draw 28 = .ok (.iload_n 1, 1) := by decide +kernel
theorem dX6_draw_29 : decode cX6_draw 29 = .ok (.i2l, 1) := by decide +kernel
theorem dX6_draw_30 : decode cX6_draw 30 = .ok (.lrem, 1) := by decide +kernel
theorem dX6_draw_31 : decode cX6_draw 31 = .ok (.l2i, 1) := by decide +kernel
theorem dX6_draw_32 : decode cX6_draw 32 = .ok (.ireturn, 1) := by decide +kernel
theorem dX6_ofSet_0 : decode cX6_ofSet 0 = .ok (.iconst 0, 1) := by decide +kernel
theorem dX6_ofSet_1 : decode cX6_ofSet 1 = .ok (.istore_n 2, 1) := by decide +kernel
theorem dX6_ofSet_2 : decode cX6_ofSet 2 = .ok (.iload_n 1, 1) := by decide +kernel
theorem dX6_ofSet_3 : decode cX6_ofSet 3 = .ok (.istore_n 3, 1) := by decide +kernel
theorem dX6_ofSet_4 : decode cX6_ofSet 4 = .ok (.iload_n 0, 1) := by decide +kernel
theorem dX6_ofSet_5 : decode cX6_ofSet 5 = .ok (.iload_n 2, 1) := by decide +kernel
theorem dX6_ofSet_6 : decode cX6_ofSet 6 = .ok (.invokestatic 62, 3) := by decide +kernel
theorem dX6_ofSet_9 : decode cX6_ofSet 9 = .ok (.ifCond .eq 7, 3) := by decide +kernel
theorem dX6_ofSet_12 : decode cX6_ofSet 12 = .ok (.iload_n 3, 1) := by decide +kernel
theorem dX6_ofSet_13 : decode cX6_ofSet 13 = .ok (.ifCond .le 25, 3) := by decide +kernel
theorem dX6_ofSet_16 : decode cX6_ofSet 16 = .ok (.iload_n 3, 1) := by decide +kernel
theorem dX6_ofSet_17 : decode cX6_ofSet 17 = .ok (.iload_n 0, 1) := by decide +kernel
theorem dX6_ofSet_18 : decode cX6_ofSet 18 = .ok (.iload_n 2, 1) := by decide +kernel
theorem dX6_ofSet_19 : decode cX6_ofSet 19 = .ok (.invokestatic 62, 3) := by decide +kernel
theorem dX6_ofSet_22 : decode cX6_ofSet 22 = .ok (.ifCond .eq 7, 3) := by decide +kernel
theorem dX6_ofSet_25 : decode cX6_ofSet 25 = .ok (.iconst 1, 1) := by decide +kernel
theorem dX6_ofSet_26 : decode cX6_ofSet 26 = .ok (.goto 4, 3) := by decide +kernel
theorem dX6_ofSet_29 : decode cX6_ofSet 29 = .ok (.iconst 0, 1) := by decide +kernel
theorem dX6_ofSet_30 : decode cX6_ofSet 30 = .ok (.isub, 1) := by decide +kernel
theorem dX6_ofSet_31 : decode cX6_ofSet 31 = .ok (.istore_n 3, 1) := by decide +kernel
theorem dX6_ofSet_32 : decode cX6_ofSet 32 = .ok (.iinc 2 1, 3) := by decide +kernel
theorem dX6_ofSet_35 : decode cX6_ofSet 35 = .ok (.goto (-31), 3) := by decide +kernel
theorem dX6_ofSet_38 : decode cX6_ofSet 38 = .ok (.iload_n 2, 1) := by decide +kernel
theorem dX6_ofSet_39 : decode cX6_ofSet 39 = .ok (.ireturn, 1) := by decide +kernel
theorem dX6_alikeIn_0 : decode cX6_alikeIn 0 = .ok (.iconst 0, 1) := by decide +kernel
theorem dX6_alikeIn_1 : decode cX6_alikeIn 1 = .ok (.istore_n 2, 1) := by decide +kernel
theorem dX6_alikeIn_2 : decode cX6_alikeIn 2 = .ok (.iconst 0, 1) := by decide +kernel
theorem dX6_alikeIn_3 : decode cX6_alikeIn 3 = .ok (.istore_n 3, 1) := by decide +kernel
theorem dX6_alikeIn_4 : decode cX6_alikeIn 4 = .ok (.iload_n 3, 1) := by decide +kernel
theorem dX6_alikeIn_5 : decode cX6_alikeIn 5 = .ok (.bipush 6, 2) := by decide +kernel
theorem dX6_alikeIn_7 : decode cX6_alikeIn 7 = .ok (.if_icmp .ge 33, 3) := by decide +kernel
theorem dX6_alikeIn_10 : decode cX6_alikeIn 10 = .ok (.iload_n 2, 1) := by decide +kernel
theorem dX6_alikeIn_11 : decode cX6_alikeIn 11 = .ok (.iload_n 1, 1) := by decide +kernel
theorem dX6_alikeIn_12 : decode cX6_alikeIn 12 = .ok (.iload_n 3, 1) := by decide +kernel
theorem dX6_alikeIn_13 : decode cX6_alikeIn 13 = .ok (.invokestatic 105, 3) := by decide +kernel
theorem dX6_alikeIn_16 : decode cX6_alikeIn 16 = .ok (.aload_n 0, 1) := by decide +kernel
theorem dX6_alikeIn_17 : decode cX6_alikeIn 17 = .ok (.getfield 86, 3) := by decide +kernel
theorem dX6_alikeIn_20 : decode cX6_alikeIn 20 = .ok (.iload_n 3, 1) := by decide +kernel
theorem dX6_alikeIn_21 : decode cX6_alikeIn 21 = .ok (.invokestatic 105, 3) := by decide +kernel
theorem dX6_alikeIn_24 : decode cX6_alikeIn 24 = .ok (.if_icmp .ne 7, 3) := by decide +kernel
theorem dX6_alikeIn_27 : decode cX6_alikeIn 27 = .ok (.iconst 1, 1) := by decide +kernel
theorem dX6_alikeIn_28 : decode cX6_alikeIn 28 = .ok (.goto 4, 3) := by decide +kernel
theorem dX6_alikeIn_31 : decode cX6_alikeIn 31 = .ok (.iconst 0, 1) := by decide +kernel
theorem dX6_alikeIn_32 : decode cX6_alikeIn 32 = .ok (.iadd, 1) := by decide +kernel
theorem dX6_alikeIn_33 : decode cX6_alikeIn 33 = .ok (.istore_n 2, 1) := by decide +kernel
theorem dX6_alikeIn_34 : decode cX6_alikeIn 34 = .ok (.iinc 3 1, 3) := by decide +kernel
theorem dX6_alikeIn_37 : decode cX6_alikeIn 37 = .ok (.goto (-33), 3) := by decide +kernel
theorem dX6_alikeIn_40 : decode cX6_alikeIn 40 = .ok (.iload_n 2, 1) := by decide +kernel
theorem dX6_alikeIn_41 : decode cX6_alikeIn 41 = .ok (.ireturn, 1) := by decide +kernel
theorem dX6_runsNow_0 : decode cX6_runsNow 0 = .ok (.aload_n 0, 1) := by decide +kernel
theorem dX6_runsNow_1 : decode cX6_runsNow 1 = .ok (.iload_n 2, 1) := by decide +kernel
theorem dX6_runsNow_2 : decode cX6_runsNow 2 = .ok (.i2l, 1) := by decide +kernel
theorem dX6_runsNow_3 : decode cX6_runsNow 3 = .ok (.putfield 209, 3) := by decide +kernel
theorem dX6_runsNow_6 : decode cX6_runsNow 6 = .ok (.aload_n 0, 1) := by decide +kernel
theorem dX6_runsNow_7 : decode cX6_runsNow 7 = .ok (.getfield 83, 3) := by decide +kernel
theorem dX6_runsNow_10 : decode cX6_runsNow 10 = .ok (.istore 4, 2) := by decide +kernel
theorem dX6_runsNow_12 : decode cX6_runsNow 12 = .ok (.iconst 0, 1) := by decide +kernel
theorem dX6_runsNow_13 : decode cX6_runsNow 13 = .ok (.istore 5, 2) := by decide +kernel
theorem dX6_runsNow_15 : decode cX6_runsNow 15 = .ok (.iconst 0, 1) := by decide +kernel
theorem dX6_runsNow_16 : decode cX6_runsNow 16 = .ok (.istore 6, 2) := by decide +kernel
theorem dX6_runsNow_18 : decode cX6_runsNow 18 = .ok (.iload 6, 2) := by decide +kernel
theorem dX6_runsNow_20 : decode cX6_runsNow 20 = .ok (.iload_n 1, 1) := by decide +kernel
theorem dX6_runsNow_21 : decode cX6_runsNow 21 = .ok (.if_icmp .ge 60, 3) := by decide +kernel
theorem dX6_runsNow_24 : decode cX6_runsNow 24 = .ok (.aload_n 0, 1) := by decide +kernel
theorem dX6_runsNow_25 : decode cX6_runsNow 25 = .ok (.iload 4, 2) := by decide +kernel
theorem dX6_runsNow_27 : decode cX6_runsNow 27 = .ok (.invokevirtual 149, 3) := by decide +kernel
theorem dX6_runsNow_30 : decode cX6_runsNow 30 = .ok (.istore 7, 2) := by decide +kernel
theorem dX6_runsNow_32 : decode cX6_runsNow 32 = .ok (.iload 7, 2) := by decide +kernel
theorem dX6_runsNow_34 : decode cX6_runsNow 34 = .ok (.ifCond .eq 41, 3) := by decide +kernel
theorem dX6_runsNow_37 : decode cX6_runsNow 37 = .ok (.iload 7, 2) := by decide +kernel
theorem dX6_runsNow_39 : decode cX6_runsNow 39 = .ok (.aload_n 0, 1) := by decide +kernel
theorem dX6_runsNow_40 : decode cX6_runsNow 40 = .ok (.iload 7, 2) := by decide +kernel
theorem dX6_runsNow_42 : decode cX6_runsNow 42 = .ok (.invokestatic 187, 3) := by decide +kernel
theorem dX6_runsNow_45 : decode cX6_runsNow 45 = .ok (.invokevirtual 219, 3) := by decide +kernel
theorem dX6_runsNow_48 : decode cX6_runsNow 48 = .ok (.invokestatic 222, 3) := by decide +kernel
theorem dX6_runsNow_51 : decode cX6_runsNow 51 = .ok (.istore 8, 2) := by decide +kernel
theorem dX6_runsNow_53 : decode cX6_runsNow 53 = .ok (.iload 5, 2) := by decide +kernel
theorem dX6_runsNow_55 : decode cX6_runsNow 55 = .ok (.aload_n 0, 1) := by decide +kernel
theorem dX6_runsNow_56 : decode cX6_runsNow 56 = .ok (.iload 4, 2) := by decide +kernel
theorem dX6_runsNow_58 : decode cX6_runsNow 58 = .ok (.iload 8, 2) := by decide +kernel
theorem dX6_runsNow_60 : decode cX6_runsNow 60 = .ok (.invokevirtual 121, 3) := by decide +kernel
theorem dX6_runsNow_63 : decode cX6_runsNow 63 = .ok (.iadd, 1) := by decide +kernel
theorem dX6_runsNow_64 : decode cX6_runsNow 64 = .ok (.istore 5, 2) := by decide +kernel
theorem dX6_runsNow_66 : decode cX6_runsNow 66 = .ok (.iload 4, 2) := by decide +kernel
theorem dX6_runsNow_68 : decode cX6_runsNow 68 = .ok (.iload 8, 2) := by decide +kernel
theorem dX6_runsNow_70 : decode cX6_runsNow 70 = .ok (.invokestatic 146, 3) := by decide +kernel
theorem dX6_runsNow_73 : decode cX6_runsNow 73 = .ok (.istore 4, 2) := by decide +kernel
theorem dX6_runsNow_75 : decode cX6_runsNow 75 = .ok (.iinc 6 1, 3) := by decide +kernel
theorem dX6_runsNow_78 : decode cX6_runsNow 78 = .ok (.goto (-60), 3) := by decide +kernel
theorem dX6_runsNow_81 : decode cX6_runsNow 81 = .ok (.iload_n 3, 1) := by decide +kernel
theorem dX6_runsNow_82 : decode cX6_runsNow 82 = .ok (.ifCond .ne 8, 3) := by decide +kernel
theorem dX6_runsNow_85 : decode cX6_runsNow 85 = .ok (.iload 5, 2) := by decide +kernel
theorem dX6_runsNow_87 : decode cX6_runsNow 87 = .ok (.goto 22, 3) := by decide +kernel
theorem dX6_runsNow_90 : decode cX6_runsNow 90 = .ok (.iload_n 3, 1) := by decide +kernel
theorem dX6_runsNow_91 : decode cX6_runsNow 91 = .ok (.iconst 1, 1) := by decide +kernel
theorem dX6_runsNow_92 : decode cX6_runsNow 92 = .ok (.if_icmp .ne 12, 3) := by decide +kernel
theorem dX6_runsNow_95 : decode cX6_runsNow 95 = .ok (.aload_n 0, 1) := by decide +kernel
theorem dX6_runsNow_96 : decode cX6_runsNow 96 = .ok (.iload 4, 2) := by decide +kernel
theorem dX6_runsNow_98 : decode cX6_runsNow 98 = .ok (.invokevirtual 225, 3) := by decide +kernel
theorem dX6_runsNow_101 : decode cX6_runsNow 101 = .ok (.goto 8, 3) := by decide +kernel
theorem dX6_runsNow_104 : decode cX6_runsNow 104 = .ok (.aload_n 0, 1) := by decide +kernel
theorem dX6_runsNow_105 : decode cX6_runsNow 105 = .ok (.getfield 209, 3) := by decide +kernel
theorem dX6_runsNow_108 : decode cX6_runsNow 108 = .ok (.l2i, 1) := by decide +kernel
theorem dX6_runsNow_109 : decode cX6_runsNow 109 = .ok (.ireturn, 1) := by decide +kernel
theorem dX6_runs_0 : decode cX6_runs 0 = .ok (.iload_n 1, 1) := by decide +kernel
theorem dX6_runs_1 : decode cX6_runs 1 = .ok (.iconst 1, 1) := by decide +kernel
theorem dX6_runs_2 : decode cX6_runs 2 = .ok (.bipush 60, 2) := by decide +kernel
theorem dX6_runs_4 : decode cX6_runs 4 = .ok (.invokestatic 47, 3) := by decide +kernel
theorem dX6_runs_7 : decode cX6_runs 7 = .ok (.ifCond .eq 16, 3) := by decide +kernel
theorem dX6_runs_10 : decode cX6_runs 10 = .ok (.iload_n 2, 1) := by decide +kernel
theorem dX6_runs_11 : decode cX6_runs 11 = .ok (.ifCond .lt 12, 3) := by decide +kernel
theorem dX6_runs_14 : decode cX6_runs 14 = .ok (.iload_n 3, 1) := by decide +kernel
theorem dX6_runs_15 : decode cX6_runs 15 = .ok (.iconst 0, 1) := by decide +kernel
theorem dX6_runs_16 : decode cX6_runs 16 = .ok (.iconst 2, 1) := by decide +kernel
theorem dX6_runs_17 : decode cX6_runs 17 = .ok (.invokestatic 47, 3) := by decide +kernel
theorem dX6_runs_20 : decode cX6_runs 20 = .ok (.ifCond .ne 6, 3) := by decide +kernel
theorem dX6_runs_23 : decode cX6_runs 23 = .ok (.bipush (-102), 2) := by decide +kernel
theorem dX6_runs_25 : decode cX6_runs 25 = .ok (.ireturn, 1) := by decide +kernel
theorem dX6_runs_26 : decode cX6_runs 26 = .ok (.aload_n 0, 1) := by decide +kernel
theorem dX6_runs_27 : decode cX6_runs 27 = .ok (.getfield 95, 3) := by decide +kernel
theorem dX6_runs_30 : decode cX6_runs 30 = .ok (.ifCond .ne 8, 3) := by decide +kernel
theorem dX6_runs_33 : decode cX6_runs 33 = .ok (.bipush (-103), 2) := by decide +kernel
theorem dX6_runs_35 : decode cX6_runs 35 = .ok (.goto 10, 3) := by decide +kernel
theorem dX6_runs_38 : decode cX6_runs 38 = .ok (.aload_n 0, 1) := by decide +kernel
theorem dX6_runs_39 : decode cX6_runs 39 = .ok (.iload_n 1, 1) := by decide +kernel
theorem dX6_runs_40 : decode cX6_runs 40 = .ok (.iload_n 2, 1) := by decide +kernel
theorem dX6_runs_41 : decode cX6_runs 41 = .ok (.iload_n 3, 1) := by decide +kernel
theorem dX6_runs_42 : decode cX6_runs 42 = .ok (.invokevirtual 228, 3) := by decide +kernel
theorem dX6_runs_45 : decode cX6_runs 45 = .ok (.ireturn, 1) := by decide +kernel
theorem dX6_image_0 : decode cX6_image 0 = .ok (.aload_n 0, 1) := by decide +kernel
theorem dX6_image_1 : decode cX6_image 1 = .ok (.getfield 95, 3) := by decide +kernel
theorem dX6_image_4 : decode cX6_image 4 = .ok (.ifCond .ne 6, 3) := by decide +kernel
theorem dX6_image_7 : decode cX6_image 7 = .ok (.bipush (-103), 2) := by decide +kernel
theorem dX6_image_9 : decode cX6_image 9 = .ok (.ireturn, 1) := by decide +kernel
theorem dX6_image_10 : decode cX6_image 10 = .ok (.aload_n 0, 1) := by decide +kernel
theorem dX6_image_11 : decode cX6_image 11 = .ok (.iconst 1, 1) := by decide +kernel
theorem dX6_image_12 : decode cX6_image 12 = .ok (.putfield 231, 3) := by decide +kernel
theorem dX6_image_15 : decode cX6_image 15 = .ok (.aload_n 0, 1) := by decide +kernel
theorem dX6_image_16 : decode cX6_image 16 = .ok (.aload_n 0, 1) := by decide +kernel
theorem dX6_image_17 : decode cX6_image 17 = .ok (.getfield 95, 3) := by decide +kernel
theorem dX6_image_20 : decode cX6_image 20 = .ok (.putfield 234, 3) := by decide +kernel
theorem dX6_image_23 : decode cX6_image 23 = .ok (.aload_n 0, 1) := by decide +kernel
theorem dX6_image_24 : decode cX6_image 24 = .ok (.aload_n 0, 1) := by decide +kernel
theorem dX6_image_25 : decode cX6_image 25 = .ok (.getfield 83, 3) := by decide +kernel
theorem dX6_image_28 : decode cX6_image 28 = .ok (.putfield 237, 3) := by decide +kernel
theorem dX6_image_31 : decode cX6_image 31 = .ok (.aload_n 0, 1) := by decide +kernel
theorem dX6_image_32 : decode cX6_image 32 = .ok (.aload_n 0, 1) := by decide +kernel
theorem dX6_image_33 : decode cX6_image 33 = .ok (.getfield 86, 3) := by decide +kernel
theorem dX6_image_36 : decode cX6_image 36 = .ok (.putfield 240, 3) := by decide +kernel
theorem dX6_image_39 : decode cX6_image 39 = .ok (.aload_n 0, 1) := by decide +kernel
theorem dX6_image_40 : decode cX6_image 40 = .ok (.aload_n 0, 1) := by decide +kernel
theorem dX6_image_41 : decode cX6_image 41 = .ok (.getfield 89, 3) := by decide +kernel
theorem dX6_image_44 : decode cX6_image 44 = .ok (.putfield 243, 3) := by decide +kernel
theorem dX6_image_47 : decode cX6_image 47 = .ok (.aload_n 0, 1) := by decide +kernel
theorem dX6_image_48 : decode cX6_image 48 = .ok (.aload_n 0, 1) := by decide +kernel
theorem dX6_image_49 : decode cX6_image 49 = .ok (.getfield 92, 3) := by decide +kernel
theorem dX6_image_52 : decode cX6_image 52 = .ok (.putfield 246, 3) := by decide +kernel
theorem dX6_image_55 : decode cX6_image 55 = .ok (.aload_n 0, 1) := by decide +kernel
theorem dX6_image_56 : decode cX6_image 56 = .ok (.aload_n 0, 1) := by decide +kernel
theorem dX6_image_57 : decode cX6_image 57 = .ok (.getfield 98, 3) := by decide +kernel
theorem dX6_image_60 : decode cX6_image 60 = .ok (.putfield 249, 3) := by decide +kernel
theorem dX6_image_63 : decode cX6_image 63 = .ok (.iconst 0, 1) := by decide +kernel
theorem dX6_image_64 : decode cX6_image 64 = .ok (.istore_n 1, 1) := by decide +kernel
theorem dX6_image_65 : decode cX6_image 65 = .ok (.iload_n 1, 1) := by decide +kernel
theorem dX6_image_66 : decode cX6_image 66 = .ok (.iconst 5, 1) := by decide +kernel
theorem dX6_image_67 : decode cX6_image 67 = .ok (.if_icmp .ge 21, 3) := by decide +kernel
theorem dX6_image_70 : decode cX6_image 70 = .ok (.aload_n 0, 1) := by decide +kernel
theorem dX6_image_71 : decode cX6_image 71 = .ok (.getfield 35, 3) := by decide +kernel
theorem dX6_image_74 : decode cX6_image 74 = .ok (.iload_n 1, 1) := by decide +kernel
theorem dX6_image_75 : decode cX6_image 75 = .ok (.aload_n 0, 1) := by decide +kernel
theorem dX6_image_76 : decode cX6_image 76 = .ok (.getfield 7, 3) := by decide +kernel
theorem dX6_image_79 : decode cX6_image 79 = .ok (.iload_n 1, 1) := by decide +kernel
theorem dX6_image_80 : decode cX6_image 80 = .ok (.iaload, 1) := by decide +kernel
theorem dX6_image_81 : decode cX6_image 81 = .ok (.iastore, 1) := by decide +kernel
theorem dX6_image_82 : decode cX6_image 82 = .ok (.iinc 1 1, 3) := by decide +kernel
theorem dX6_image_85 : decode cX6_image 85 = .ok (.goto (-20), 3) := by decide +kernel
theorem dX6_image_88 : decode cX6_image 88 = .ok (.iconst 0, 1) := by decide +kernel
theorem dX6_image_89 : decode cX6_image 89 = .ok (.istore_n 1, 1) := by decide +kernel
theorem dX6_image_90 : decode cX6_image 90 = .ok (.iload_n 1, 1) := by decide +kernel
theorem dX6_image_91 : decode cX6_image 91 = .ok (.bipush 6, 2) := by decide +kernel
theorem dX6_image_93 : decode cX6_image 93 = .ok (.if_icmp .ge 45, 3) := by decide +kernel
theorem dX6_image_96 : decode cX6_image 96 = .ok (.aload_n 0, 1) := by decide +kernel
theorem dX6_image_97 : decode cX6_image 97 = .ok (.getfield 38, 3) := by decide +kernel
theorem dX6_image_100 : decode cX6_image 100 = .ok (.iload_n 1, 1) := by decide +kernel
theorem dX6_image_101 : decode cX6_image 101 = .ok (.aload_n 0, 1) := by decide +kernel
theorem dX6_image_102 : decode cX6_image 102 = .ok (.getfield 13, 3) := by decide +kernel
theorem dX6_image_105 : decode cX6_image 105 = .ok (.iload_n 1, 1) := by decide +kernel
theorem dX6_image_106 : decode cX6_image 106 = .ok (.iaload, 1) := by decide +kernel
theorem dX6_image_107 : decode cX6_image 107 = .ok (.iastore, 1) := by decide +kernel
theorem dX6_image_108 : decode cX6_image 108 = .ok (.aload_n 0, 1) := by decide +kernel
theorem dX6_image_109 : decode cX6_image 109 = .ok (.getfield 41, 3) := by decide +kernel
theorem dX6_image_112 : decode cX6_image 112 = .ok (.iload_n 1, 1) := by decide +kernel
theorem dX6_image_113 : decode cX6_image 113 = .ok (.aload_n 0, 1) := by decide +kernel
theorem dX6_image_114 : decode cX6_image 114 = .ok (.getfield 16, 3) := by decide +kernel
theorem dX6_image_117 : decode cX6_image 117 = .ok (.iload_n 1, 1) := by decide +kernel
theorem dX6_image_118 : decode cX6_image 118 = .ok (.iaload, 1) := by decide +kernel
theorem dX6_image_119 : decode cX6_image 119 = .ok (.iastore, 1) := by decide +kernel
theorem dX6_image_120 : decode cX6_image 120 = .ok (.aload_n 0, 1) := by decide +kernel
theorem dX6_image_121 : decode cX6_image 121 = .ok (.getfield 44, 3) := by decide +kernel
theorem dX6_image_124 : decode cX6_image 124 = .ok (.iload_n 1, 1) := by decide +kernel
theorem dX6_image_125 : decode cX6_image 125 = .ok (.aload_n 0, 1) := by decide +kernel
theorem dX6_image_126 : decode cX6_image 126 = .ok (.getfield 19, 3) := by decide +kernel
theorem dX6_image_129 : decode cX6_image 129 = .ok (.iload_n 1, 1) := by decide +kernel
theorem dX6_image_130 : decode cX6_image 130 = .ok (.iaload, 1) := by decide +kernel
theorem dX6_image_131 : decode cX6_image 131 = .ok (.iastore, 1) := by decide +kernel
theorem dX6_image_132 : decode cX6_image 132 = .ok (.iinc 1 1, 3) := by decide +kernel
theorem dX6_image_135 : decode cX6_image 135 = .ok (.goto (-45), 3) := by decide +kernel
theorem dX6_image_138 : decode cX6_image 138 = .ok (.aload_n 0, 1) := by decide +kernel
theorem dX6_image_139 : decode cX6_image 139 = .ok (.getfield 89, 3) := by decide +kernel
theorem dX6_image_142 : decode cX6_image 142 = .ok (.ireturn, 1) := by decide +kernel
theorem dX6_restore_0 : decode cX6_restore 0 = .ok (.aload_n 0, 1) := by decide +kernel
theorem dX6_restore_1 : decode cX6_restore 1 = .ok (.getfield 231, 3) := by decide +kernel
theorem dX6_restore_4 : decode cX6_restore 4 = .ok (.ifCond .eq 14, 3) := by decide +kernel
theorem dX6_restore_7 : decode cX6_restore 7 = .ok (.aload_n 0, 1) := by decide +kernel
theorem dX6_restore_8 : decode cX6_restore 8 = .ok (.getfield 234, 3) := by decide +kernel
theorem dX6_restore_11 : decode cX6_restore 11 = .ok (.aload_n 0, 1) := by decide +kernel
theorem dX6_restore_12 : decode cX6_restore 12 = .ok (.getfield 95, 3) := by decide +kernel
theorem dX6_restore_15 : decode cX6_restore 15 = .ok (.if_icmp .eq 6, 3) := by decide +kernel
theorem dX6_restore_18 : decode cX6_restore 18 = .ok (.bipush (-103), 2) := by decide +kernel
theorem dX6_restore_20 : decode cX6_restore 20 = .ok (.ireturn, 1) := by decide +kernel
theorem dX6_restore_21 : decode cX6_restore 21 = .ok (.aload_n 0, 1) := by decide +kernel
theorem dX6_restore_22 : decode cX6_restore 22 = .ok (.aload_n 0, 1) := by decide +kernel
theorem dX6_restore_23 : decode cX6_restore 23 = .ok (.getfield 237, 3) := by decide +kernel
theorem dX6_restore_26 : decode cX6_restore 26 = .ok (.putfield 83, 3) := by decide +kernel
theorem dX6_restore_29 : decode cX6_restore 29 = .ok (.aload_n 0, 1) := by decide +kernel
theorem dX6_restore_30 : decode cX6_restore 30 = .ok (.aload_n 0, 1) := by decide +kernel
theorem dX6_restore_31 : decode cX6_restore 31 = .ok (.getfield 240, 3) := by decide +kernel
theorem dX6_restore_34 : decode cX6_restore 34 = .ok (.putfield 86, 3) := by decide +kernel
theorem dX6_restore_37 : decode cX6_restore 37 = .ok (.aload_n 0, 1) := by decide +kernel
theorem dX6_restore_38 : decode cX6_restore 38 = .ok (.aload_n 0, 1) := by decide +kernel
theorem dX6_restore_39 : decode cX6_restore 39 = .ok (.getfield 243, 3) := by decide +kernel
theorem dX6_restore_42 : decode cX6_restore 42 = .ok (.putfield 89, 3) := by decide +kernel
theorem dX6_restore_45 : decode cX6_restore 45 = .ok (.aload_n 0, 1) := by decide +kernel
theorem dX6_restore_46 : decode cX6_restore 46 = .ok (.aload_n 0, 1) := by decide +kernel
theorem dX6_restore_47 : decode cX6_restore 47 = .ok (.getfield 246, 3) := by decide +kernel
theorem dX6_restore_50 : decode cX6_restore 50 = .ok (.putfield 92, 3) := by decide +kernel
theorem dX6_restore_53 : decode cX6_restore 53 = .ok (.aload_n 0, 1) := by decide +kernel
theorem dX6_restore_54 : decode cX6_restore 54 = .ok (.aload_n 0, 1) := by decide +kernel
theorem dX6_restore_55 : decode cX6_restore 55 = .ok (.getfield 249, 3) := by decide +kernel
theorem dX6_restore_58 : decode cX6_restore 58 = .ok (.putfield 98, 3) := by decide +kernel
theorem dX6_restore_61 : decode cX6_restore 61 = .ok (.iconst 0, 1) := by decide +kernel
theorem dX6_restore_62 : decode cX6_restore 62 = .ok (.istore_n 1, 1) := by decide +kernel
theorem dX6_restore_63 : decode cX6_restore 63 = .ok (.iload_n 1, 1) := by decide +kernel
theorem dX6_restore_64 : decode cX6_restore 64 = .ok (.iconst 5, 1) := by decide +kernel
theorem dX6_restore_65 : decode cX6_restore 65 = .ok (.if_icmp .ge 21, 3) := by decide +kernel
theorem dX6_restore_68 : decode cX6_restore 68 = .ok (.aload_n 0, 1) := by decide +kernel
theorem dX6_restore_69 : decode cX6_restore 69 = .ok (.getfield 7, 3) := by decide +kernel
theorem dX6_restore_72 : decode cX6_restore 72 = .ok (.iload_n 1, 1) := by decide +kernel
theorem dX6_restore_73 : decode cX6_restore 73 = .ok (.aload_n 0, 1) := by decide +kernel
theorem dX6_restore_74 : decode cX6_restore 74 = .ok (.getfield 35, 3) := by decide +kernel
theorem dX6_restore_77 : decode cX6_restore 77 = .ok (.iload_n 1, 1) := by decide +kernel
theorem dX6_restore_78 : decode cX6_restore 78 = .ok (.iaload, 1) := by decide +kernel
theorem dX6_restore_79 : decode cX6_restore 79 = .ok (.iastore, 1) := by decide +kernel
theorem dX6_restore_80 : decode cX6_restore 80 = .ok (.iinc 1 1, 3) := by decide +kernel
theorem dX6_restore_83 : decode cX6_restore 83 = .ok (.goto (-20), 3) := by decide +kernel
theorem dX6_restore_86 : decode cX6_restore 86 = .ok (.iconst 0, 1) := by decide +kernel
theorem dX6_restore_87 : decode cX6_restore 87 = .ok (.istore_n 1, 1) := by decide +kernel
theorem dX6_restore_88 : decode cX6_restore 88 = .ok (.iload_n 1, 1) := by decide +kernel
theorem dX6_restore_89 : decode cX6_restore 89 = .ok (.bipush 6, 2) := by decide +kernel
theorem dX6_restore_91 : decode cX6_restore 91 = .ok (.if_icmp .ge 45, 3) := by decide +kernel
theorem dX6_restore_94 : decode cX6_restore 94 = .ok (.aload_n 0, 1) := by decide +kernel
theorem dX6_restore_95 : decode cX6_restore 95 = .ok (.getfield 13, 3) := by decide +kernel
theorem dX6_restore_98 : decode cX6_restore 98 = .ok (.iload_n 1, 1) := by decide +kernel
theorem dX6_restore_99 : decode cX6_restore 99 = .ok (.aload_n 0, 1) := by decide +kernel
theorem dX6_restore_100 : decode cX6_restore 100 = .ok (.getfield 38, 3) := by decide +kernel
theorem dX6_restore_103 : decode cX6_restore 103 = .ok (.iload_n 1, 1) := by decide +kernel
theorem dX6_restore_104 : decode cX6_restore 104 = .ok (.iaload, 1) := by decide +kernel
theorem dX6_restore_105 : decode cX6_restore 105 = .ok (.iastore, 1) := by decide +kernel
theorem dX6_restore_106 : decode cX6_restore 106 = .ok (.aload_n 0, 1) := by decide +kernel
theorem dX6_restore_107 : decode cX6_restore 107 = .ok (.getfield 16, 3) := by decide +kernel
theorem dX6_restore_110 : decode cX6_restore 110 = .ok (.iload_n 1, 1) := by decide +kernel
theorem dX6_restore_111 : decode cX6_restore 111 = .ok (.aload_n 0, 1) := by decide +kernel
theorem dX6_restore_112 : decode cX6_restore 112 = .ok (.getfield 41, 3) := by decide +kernel
theorem dX6_restore_115 : decode cX6_restore 115 = .ok (.iload_n 1, 1) := by decide +kernel
theorem dX6_restore_116 : decode cX6_restore 116 = .ok (.iaload, 1) := by decide +kernel
theorem dX6_restore_117 : decode cX6_restore 117 = .ok (.iastore, 1) := by decide +kernel
theorem dX6_restore_118 : decode cX6_restore 118 = .ok (.aload_n 0, 1) := by decide +kernel
theorem dX6_restore_119 : decode cX6_restore 119 = .ok (.getfield 19, 3) := by decide +kernel
theorem dX6_restore_122 : decode cX6_restore 122 = .ok (.iload_n 1, 1) := by decide +kernel
theorem dX6_restore_123 : decode cX6_restore 123 = .ok (.aload_n 0, 1) := by decide +kernel
theorem dX6_restore_124 : decode cX6_restore 124 = .ok (.getfield 44, 3) := by decide +kernel
theorem dX6_restore_127 : decode cX6_restore 127 = .ok (.iload_n 1, 1) := by decide +kernel
theorem dX6_restore_128 : decode cX6_restore 128 = .ok (.iaload, 1) := by decide +kernel
theorem dX6_restore_129 : decode cX6_restore 129 = .ok (.iastore, 1) := by decide +kernel
theorem dX6_restore_130 : decode cX6_restore 130 = .ok (.iinc 1 1, 3) := by decide +kernel
theorem dX6_restore_133 : decode cX6_restore 133 = .ok (.goto (-45), 3) := by decide +kernel
theorem dX6_restore_136 : decode cX6_restore 136 = .ok (.aload_n 0, 1) := by decide +kernel
theorem dX6_restore_137 : decode cX6_restore 137 = .ok (.getfield 89, 3) := by decide +kernel
theorem dX6_restore_140 : decode cX6_restore 140 = .ok (.ireturn, 1) := by decide +kernel
theorem dX6_ofTray_0 : decode cX6_ofTray 0 = .ok (.iload_n 1, 1) := by decide +kernel
theorem dX6_ofTray_1 : decode cX6_ofTray 1 = .ok (.tableswitch 98 0 4 #[35, 55, 98, 98, 75], 35) := by decide +kernel
theorem dX6_ofTray_36 : decode cX6_ofTray 36 = .ok (.aload_n 0, 1) := by decide +kernel
theorem dX6_ofTray_37 : decode cX6_ofTray 37 = .ok (.getfield 95, 3) := by decide +kernel
theorem dX6_ofTray_40 : decode cX6_ofTray 40 = .ok (.ifCond .ne 7, 3) := by decide +kernel
theorem dX6_ofTray_43 : decode cX6_ofTray 43 = .ok (.iconst (-1), 1) := by decide +kernel
theorem dX6_ofTray_44 : decode cX6_ofTray 44 = .ok (.goto 11, 3) := by decide +kernel
theorem dX6_ofTray_47 : decode cX6_ofTray 47 = .ok (.aload_n 0, 1) := by decide +kernel
theorem dX6_ofTray_48 : decode cX6_ofTray 48 = .ok (.getfield 83, 3) := by decide +kernel
theorem dX6_ofTray_51 : decode cX6_ofTray 51 = .ok (.iconst 5, 1) := by decide +kernel
theorem dX6_ofTray_52 : decode cX6_ofTray 52 = .ok (.invokestatic 101, 3) := by decide +kernel
theorem dX6_ofTray_55 : decode cX6_ofTray 55 = .ok (.ireturn, 1) := by decide +kernel
theorem dX6_ofTray_56 : decode cX6_ofTray 56 = .ok (.aload_n 0, 1) := by decide +kernel
theorem dX6_ofTray_57 : decode cX6_ofTray 57 = .ok (.getfield 95, 3) := by decide +kernel
theorem dX6_ofTray_60 : decode cX6_ofTray 60 = .ok (.ifCond .ne 7, 3) := by decide +kernel
theorem dX6_ofTray_63 : decode cX6_ofTray 63 = .ok (.iconst (-1), 1) := by decide +kernel
theorem dX6_ofTray_64 : decode cX6_ofTray 64 = .ok (.goto 11, 3) := by decide +kernel
theorem dX6_ofTray_67 : decode cX6_ofTray 67 = .ok (.aload_n 0, 1) := by decide +kernel
theorem dX6_ofTray_68 : decode cX6_ofTray 68 = .ok (.getfield 86, 3) := by decide +kernel
theorem dX6_ofTray_71 : decode cX6_ofTray 71 = .ok (.iconst 5, 1) := by decide +kernel
theorem dX6_ofTray_72 : decode cX6_ofTray 72 = .ok (.invokestatic 101, 3) := by decide +kernel
theorem dX6_ofTray_75 : decode cX6_ofTray 75 = .ok (.ireturn, 1) := by decide +kernel
theorem dX6_ofTray_76 : decode cX6_ofTray 76 = .ok (.aload_n 0, 1) := by decide +kernel
theorem dX6_ofTray_77 : decode cX6_ofTray 77 = .ok (.getfield 95, 3) := by decide +kernel
theorem dX6_ofTray_80 : decode cX6_ofTray 80 = .ok (.ifCond .ne 7, 3) := by decide +kernel
theorem dX6_ofTray_83 : decode cX6_ofTray 83 = .ok (.iconst 0, 1) := by decide +kernel
theorem dX6_ofTray_84 : decode cX6_ofTray 84 = .ok (.goto 14, 3) := by decide +kernel
theorem dX6_ofTray_87 : decode cX6_ofTray 87 = .ok (.aload_n 0, 1) := by decide +kernel
theorem dX6_ofTray_88 : decode cX6_ofTray 88 = .ok (.aload_n 0, 1) := by decide +kernel
theorem dX6_ofTray_89 : decode cX6_ofTray 89 = .ok (.getfield 83, 3) := by decide +kernel
theorem dX6_ofTray_92 : decode cX6_ofTray 92 = .ok (.invokevirtual 149, 3) := by decide +kernel
theorem dX6_ofTray_95 : decode cX6_ofTray 95 = .ok (.invokestatic 187, 3) := by decide +kernel
theorem dX6_ofTray_98 : decode cX6_ofTray 98 = .ok (.ireturn, 1) := by decide +kernel
theorem dX6_ofTray_99 : decode cX6_ofTray 99 = .ok (.aload_n 0, 1) := by decide +kernel
theorem dX6_ofTray_100 : decode cX6_ofTray 100 = .ok (.getfield 95, 3) := by decide +kernel
theorem dX6_ofTray_103 : decode cX6_ofTray 103 = .ok (.ifCond .ne 7, 3) := by decide +kernel
theorem dX6_ofTray_106 : decode cX6_ofTray 106 = .ok (.iconst 0, 1) := by decide +kernel
theorem dX6_ofTray_107 : decode cX6_ofTray 107 = .ok (.goto 11, 3) := by decide +kernel
theorem dX6_ofTray_110 : decode cX6_ofTray 110 = .ok (.aload_n 0, 1) := by decide +kernel
theorem dX6_ofTray_111 : decode cX6_ofTray 111 = .ok (.aload_n 0, 1) := by decide +kernel
theorem dX6_ofTray_112 : decode cX6_ofTray 112 = .ok (.getfield 83, 3) := by decide +kernel
theorem dX6_ofTray_115 : decode cX6_ofTray 115 = .ok (.invokevirtual 225, 3) := by decide +kernel
theorem dX6_ofTray_118 : decode cX6_ofTray 118 = .ok (.ireturn, 1) := by decide +kernel
theorem dX6_howMany_0 : decode cX6_howMany 0 = .ok (.iload_n 1, 1) := by decide +kernel
theorem dX6_howMany_1 : decode cX6_howMany 1 = .ok (.tableswitch 91 0 9 #[55, 55, 61, 66, 55, 55, 71, 76, 81, 86], 55) := by decide +kernel
theorem dX6_howMany_56 : decode cX6_howMany 56 = .ok (.aload_n 0, 1) := by decide +kernel
theorem dX6_howMany_57 : decode cX6_howMany 57 = .ok (.iload_n 1, 1) := by decide +kernel
theorem dX6_howMany_58 : decode cX6_howMany 58 = .ok (.invokevirtual 252, 3) := by decide +kernel
theorem dX6_howMany_61 : decode cX6_howMany 61 = .ok (.ireturn, 1) := by decide +kernel
theorem dX6_howMany_62 : decode cX6_howMany 62 = .ok (.aload_n 0, 1) := by decide +kernel
theorem dX6_howMany_63 : decode cX6_howMany 63 = .ok (.getfield 89, 3) := by decide +kernel
theorem dX6_howMany_66 : decode cX6_howMany 66 = .ok (.ireturn, 1) := by decide +kernel
theorem dX6_howMany_67 : decode cX6_howMany 67 = .ok (.aload_n 0, 1) := by decide +kernel
theorem dX6_howMany_68 : decode cX6_howMany 68 = .ok (.getfield 92, 3) := by decide +kernel
theorem dX6_howMany_71 : decode cX6_howMany 71 = .ok (.ireturn, 1) := by decide +kernel
theorem dX6_howMany_72 : decode cX6_howMany 72 = .ok (.aload_n 0, 1) := by decide +kernel
theorem dX6_howMany_73 : decode cX6_howMany 73 = .ok (.getfield 98, 3) := by decide +kernel
theorem dX6_howMany_76 : decode cX6_howMany 76 = .ok (.ireturn, 1) := by decide +kernel
theorem dX6_howMany_77 : decode cX6_howMany 77 = .ok (.aload_n 0, 1) := by decide +kernel
theorem dX6_howMany_78 : decode cX6_howMany 78 = .ok (.getfield 51, 3) := by decide +kernel
theorem dX6_howMany_81 : decode cX6_howMany 81 = .ok (.ireturn, 1) := by decide +kernel
theorem dX6_howMany_82 : decode cX6_howMany 82 = .ok (.aload_n 0, 1) := by decide +kernel
theorem dX6_howMany_83 : decode cX6_howMany 83 = .ok (.getfield 95, 3) := by decide +kernel
theorem dX6_howMany_86 : decode cX6_howMany 86 = .ok (.ireturn, 1) := by decide +kernel
theorem dX6_howMany_87 : decode cX6_howMany 87 = .ok (.aload_n 0, 1) := by decide +kernel
theorem dX6_howMany_88 : decode cX6_howMany 88 = .ok (.getfield 181, 3) := by decide +kernel
theorem dX6_howMany_91 : decode cX6_howMany 91 = .ok (.ireturn, 1) := by decide +kernel
theorem dX6_howMany_92 : decode cX6_howMany 92 = .ok (.bipush (-102), 2) := by decide +kernel
theorem dX6_howMany_94 : decode cX6_howMany 94 = .ok (.ireturn, 1) := by decide +kernel
theorem dX6_count_0 : decode cX6_count 0 = .ok (.aload_n 0, 1) := by decide +kernel
theorem dX6_count_1 : decode cX6_count 1 = .ok (.iload_n 1, 1) := by decide +kernel
theorem dX6_count_2 : decode cX6_count 2 = .ok (.invokevirtual 255, 3) := by decide +kernel
theorem dX6_count_5 : decode cX6_count 5 = .ok (.ireturn, 1) := by decide +kernel
theorem dX6_mix_0 : decode cX6_mix 0 = .ok (.aload_n 0, 1) := by decide +kernel
theorem dX6_mix_1 : decode cX6_mix 1 = .ok (.ldc2_w 258, 3) := by decide +kernel
theorem dX6_mix_4 : decode cX6_mix 4 = .ok (.aload_n 0, 1) := by decide +kernel
theorem dX6_mix_5 : decode cX6_mix 5 = .ok (.getfield 260, 3) := by decide +kernel
theorem dX6_mix_8 : decode cX6_mix 8 = .ok (.lmul, 1) := by decide +kernel
theorem dX6_mix_9 : decode cX6_mix 9 = .ok (.lload_n 1, 1) := by decide +kernel
theorem dX6_mix_10 : decode cX6_mix 10 = .ok (.ladd, 1) := by decide +kernel
theorem dX6_mix_11 : decode cX6_mix 11 = .ok (.putfield 260, 3) := by decide +kernel
theorem dX6_mix_14 : decode cX6_mix 14 = .ok (.return_, 1) := by decide +kernel
theorem dX6_mixTray_0 : decode cX6_mixTray 0 = .ok (.iconst 0, 1) := by decide +kernel
theorem dX6_mixTray_1 : decode cX6_mixTray 1 = .ok (.istore_n 1, 1) := by decide +kernel
theorem dX6_mixTray_2 : decode cX6_mixTray 2 = .ok (.iload_n 1, 1) := by decide +kernel
theorem dX6_mixTray_3 : decode cX6_mixTray 3 = .ok (.iconst 5, 1) := by decide +kernel
theorem dX6_mixTray_4 : decode cX6_mixTray 4 = .ok (.if_icmp .ge 71, 3) := by decide +kernel
theorem dX6_mixTray_7 : decode cX6_mixTray 7 = .ok (.iconst 0, 1) := by decide +kernel
theorem dX6_mixTray_8 : decode cX6_mixTray 8 = .ok (.istore_n 2, 1) := by decide +kernel
theorem dX6_mixTray_9 : decode cX6_mixTray 9 = .ok (.iload_n 2, 1) := by decide +kernel
theorem dX6_mixTray_10 : decode cX6_mixTray 10 = .ok (.bipush 7, 2) := by decide +kernel
theorem dX6_mixTray_12 : decode cX6_mixTray 12 = .ok (.if_icmp .ge 20, 3) := by decide +kernel
theorem dX6_mixTray_15 : decode cX6_mixTray 15 = .ok (.aload_n 0, 1) := by decide +kernel
theorem dX6_mixTray_16 : decode cX6_mixTray 16 = .ok (.aload_n 0, 1) := by decide +kernel
theorem dX6_mixTray_17 : decode cX6_mixTray 17 = .ok (.iload_n 1, 1) := by decide +kernel
theorem dX6_mixTray_18 : decode cX6_mixTray 18 = .ok (.iload_n 2, 1) := by decide +kernel
theorem dX6_mixTray_19 : decode cX6_mixTray 19 = .ok (.invokevirtual 137, 3) := by decide +kernel
theorem dX6_mixTray_22 : decode cX6_mixTray 22 = .ok (.i2l, 1) := by decide +kernel
theorem dX6_mixTray_23 : decode cX6_mixTray 23 = .ok (.invokevirtual 263, 3) := by decide +kernel
theorem dX6_mixTray_26 : decode cX6_mixTray 26 = .ok (.iinc 2 1, 3) := by decide +kernel
theorem dX6_mixTray_29 : decode cX6_mixTray 29 = .ok (.goto (-20), 3) := by decide +kernel
theorem dX6_mixTray_32 : decode cX6_mixTray 32 = .ok (.aload_n 0, 1) := by decide +kernel
theorem dX6_mixTray_33 : decode cX6_mixTray 33 = .ok (.aload_n 0, 1) := by decide +kernel
theorem dX6_mixTray_34 : decode cX6_mixTray 34 = .ok (.iload_n 1, 1) := by decide +kernel
theorem dX6_mixTray_35 : decode cX6_mixTray 35 = .ok (.iconst 0, 1) := by decide +kernel
theorem dX6_mixTray_36 : decode cX6_mixTray 36 = .ok (.invokevirtual 130, 3) := by decide +kernel
theorem dX6_mixTray_39 : decode cX6_mixTray 39 = .ok (.i2l, 1) := by decide +kernel
theorem dX6_mixTray_40 : decode cX6_mixTray 40 = .ok (.invokevirtual 263, 3) := by decide +kernel
theorem dX6_mixTray_43 : decode cX6_mixTray 43 = .ok (.aload_n 0, 1) := by decide +kernel
theorem dX6_mixTray_44 : decode cX6_mixTray 44 = .ok (.aload_n 0, 1) := by decide +kernel
theorem dX6_mixTray_45 : decode cX6_mixTray 45 = .ok (.iload_n 1, 1) := by decide +kernel
theorem dX6_mixTray_46 : decode cX6_mixTray 46 = .ok (.iconst 4, 1) := by decide +kernel
theorem dX6_mixTray_47 : decode cX6_mixTray 47 = .ok (.iconst 3, 1) := by decide +kernel
theorem dX6_mixTray_48 : decode cX6_mixTray 48 = .ok (.iconst 0, 1) := by decide +kernel
theorem dX6_mixTray_49 : decode cX6_mixTray 49 = .ok (.invokevirtual 200, 3) := by decide +kernel
theorem dX6_mixTray_52 : decode cX6_mixTray 52 = .ok (.i2l, 1) := by decide +kernel
theorem dX6_mixTray_53 : decode cX6_mixTray 53 = .ok (.invokevirtual 263, 3) := by decide +kernel
theorem dX6_mixTray_56 : decode cX6_mixTray 56 = .ok (.aload_n 0, 1) := by decide +kernel
theorem dX6_mixTray_57 : decode cX6_mixTray 57 = .ok (.aload_n 0, 1) := by decide +kernel
theorem dX6_mixTray_58 : decode cX6_mixTray 58 = .ok (.iload_n 1, 1) := by decide +kernel
theorem dX6_mixTray_59 : decode cX6_mixTray 59 = .ok (.iconst 4, 1) := by decide +kernel
theorem dX6_mixTray_60 : decode cX6_mixTray 60 = .ok (.iconst 3, 1) := by decide +kernel
theorem dX6_mixTray_61 : decode cX6_mixTray 61 = .ok (.iconst 1, 1) := by decide +kernel
theorem dX6_mixTray_62 : decode cX6_mixTray 62 = .ok (.invokevirtual 200, 3) := by decide +kernel
theorem dX6_mixTray_65 : decode cX6_mixTray 65 = .ok (.i2l, 1) := by decide +kernel
theorem dX6_mixTray_66 : decode cX6_mixTray 66 = .ok (.invokevirtual 263, 3) := by decide +kernel
theorem dX6_mixTray_69 : decode cX6_mixTray 69 = .ok (.iinc 1 1, 3) := by decide +kernel
theorem dX6_mixTray_72 : decode cX6_mixTray 72 = .ok (.goto (-70), 3) := by decide +kernel
theorem dX6_mixTray_75 : decode cX6_mixTray 75 = .ok (.iconst 0, 1) := by decide +kernel
theorem dX6_mixTray_76 : decode cX6_mixTray 76 = .ok (.istore_n 1, 1) := by decide +kernel
theorem dX6_mixTray_77 : decode cX6_mixTray 77 = .ok (.iload_n 1, 1) := by decide +kernel
theorem dX6_mixTray_78 : decode cX6_mixTray 78 = .ok (.bipush 6, 2) := by decide +kernel
theorem dX6_mixTray_80 : decode cX6_mixTray 80 = .ok (.if_icmp .ge 33, 3) := by decide +kernel
theorem dX6_mixTray_83 : decode cX6_mixTray 83 = .ok (.iconst 0, 1) := by decide +kernel
theorem dX6_mixTray_84 : decode cX6_mixTray 84 = .ok (.istore_n 2, 1) := by decide +kernel
theorem dX6_mixTray_85 : decode cX6_mixTray 85 = .ok (.iload_n 2, 1) := by decide +kernel
theorem dX6_mixTray_86 : decode cX6_mixTray 86 = .ok (.iconst 3, 1) := by decide +kernel
theorem dX6_mixTray_87 : decode cX6_mixTray 87 = .ok (.if_icmp .ge 20, 3) := by decide +kernel
theorem dX6_mixTray_90 : decode cX6_mixTray 90 = .ok (.aload_n 0, 1) := by decide +kernel
theorem dX6_mixTray_91 : decode cX6_mixTray 91 = .ok (.aload_n 0, 1) := by decide +kernel
theorem dX6_mixTray_92 : decode cX6_mixTray 92 = .ok (.iload_n 1, 1) := by decide +kernel
theorem dX6_mixTray_93 : decode cX6_mixTray 93 = .ok (.iload_n 2, 1) := by decide +kernel
theorem dX6_mixTray_94 : decode cX6_mixTray 94 = .ok (.invokevirtual 143, 3) := by decide +kernel
theorem dX6_mixTray_97 : decode cX6_mixTray 97 = .ok (.i2l, 1) := by decide +kernel
theorem dX6_mixTray_98 : decode cX6_mixTray 98 = .ok (.invokevirtual 263, 3) := by decide +kernel
theorem dX6_mixTray_101 : decode cX6_mixTray 101 = .ok (.iinc 2 1, 3) := by decide +kernel
theorem dX6_mixTray_104 : decode cX6_mixTray 104 = .ok (.goto (-19), 3) := by decide +kernel
theorem dX6_mixTray_107 : decode cX6_mixTray 107 = .ok (.iinc 1 1, 3) := by decide +kernel
theorem dX6_mixTray_110 : decode cX6_mixTray 110 = .ok (.goto (-33), 3) := by decide +kernel
theorem dX6_mixTray_113 : decode cX6_mixTray 113 = .ok (.iconst 0, 1) := by decide +kernel
theorem dX6_mixTray_114 : decode cX6_mixTray 114 = .ok (.istore_n 1, 1) := by decide +kernel
theorem dX6_mixTray_115 : decode cX6_mixTray 115 = .ok (.iload_n 1, 1) := by decide +kernel
theorem dX6_mixTray_116 : decode cX6_mixTray 116 = .ok (.iconst 3, 1) := by decide +kernel
theorem dX6_mixTray_117 : decode cX6_mixTray 117 = .ok (.if_icmp .ge 19, 3) := by decide +kernel
theorem dX6_mixTray_120 : decode cX6_mixTray 120 = .ok (.aload_n 0, 1) := by decide +kernel
theorem dX6_mixTray_121 : decode cX6_mixTray 121 = .ok (.aload_n 0, 1) := by decide +kernel
theorem dX6_mixTray_122 : decode cX6_mixTray 122 = .ok (.iload_n 1, 1) := by decide +kernel
theorem dX6_mixTray_123 : decode cX6_mixTray 123 = .ok (.invokevirtual 172, 3) := by decide +kernel
theorem dX6_mixTray_126 : decode cX6_mixTray 126 = .ok (.i2l, 1) := by decide +kernel
theorem dX6_mixTray_127 : decode cX6_mixTray 127 = .ok (.invokevirtual 263, 3) := by decide +kernel
theorem dX6_mixTray_130 : decode cX6_mixTray 130 = .ok (.iinc 1 1, 3) := by decide +kernel
theorem dX6_mixTray_133 : decode cX6_mixTray 133 = .ok (.goto (-18), 3) := by decide +kernel
theorem dX6_mixTray_136 : decode cX6_mixTray 136 = .ok (.aload_n 0, 1) := by decide +kernel
theorem dX6_mixTray_137 : decode cX6_mixTray 137 = .ok (.aload_n 0, 1) := by decide +kernel
theorem dX6_mixTray_138 : decode cX6_mixTray 138 = .ok (.iconst 0, 1) := by decide +kernel
theorem dX6_mixTray_139 : decode cX6_mixTray 139 = .ok (.invokevirtual 175, 3) := by decide +kernel
theorem dX6_mixTray_142 : decode cX6_mixTray 142 = .ok (.i2l, 1) := by decide +kernel
theorem dX6_mixTray_143 : decode cX6_mixTray 143 = .ok (.invokevirtual 263, 3) := by decide +kernel
theorem dX6_mixTray_146 : decode cX6_mixTray 146 = .ok (.aload_n 0, 1) := by decide +kernel
theorem dX6_mixTray_147 : decode cX6_mixTray 147 = .ok (.aload_n 0, 1) := by decide +kernel
theorem dX6_mixTray_148 : decode cX6_mixTray 148 = .ok (.iconst 1, 1) := by decide +kernel
theorem dX6_mixTray_149 : decode cX6_mixTray 149 = .ok (.invokevirtual 175, 3) := by decide +kernel
theorem dX6_mixTray_152 : decode cX6_mixTray 152 = .ok (.i2l, 1) := by decide +kernel
theorem dX6_mixTray_153 : decode cX6_mixTray 153 = .ok (.invokevirtual 263, 3) := by decide +kernel
theorem dX6_mixTray_156 : decode cX6_mixTray 156 = .ok (.aload_n 0, 1) := by decide +kernel
theorem dX6_mixTray_157 : decode cX6_mixTray 157 = .ok (.aload_n 0, 1) := by decide +kernel
theorem dX6_mixTray_158 : decode cX6_mixTray 158 = .ok (.invokevirtual 178, 3) := by decide +kernel
theorem dX6_mixTray_161 : decode cX6_mixTray 161 = .ok (.i2l, 1) := by decide +kernel
theorem dX6_mixTray_162 : decode cX6_mixTray 162 = .ok (.invokevirtual 263, 3) := by decide +kernel
theorem dX6_mixTray_165 : decode cX6_mixTray 165 = .ok (.return_, 1) := by decide +kernel
theorem dX6_digest_0 : decode cX6_digest 0 = .ok (.aload_n 0, 1) := by decide +kernel
theorem dX6_digest_1 : decode cX6_digest 1 = .ok (.ldc2_w 267, 3) := by decide +kernel
theorem dX6_digest_4 : decode cX6_digest 4 = .ok (.putfield 260, 3) := by decide +kernel
theorem dX6_digest_7 : decode cX6_digest 7 = .ok (.aload_n 0, 1) := by decide +kernel
theorem dX6_digest_8 : decode cX6_digest 8 = .ok (.getfield 95, 3) := by decide +kernel
theorem dX6_digest_11 : decode cX6_digest 11 = .ok (.ifCond .le 7, 3) := by decide +kernel
theorem dX6_digest_14 : decode cX6_digest 14 = .ok (.aload_n 0, 1) := by decide +kernel
theorem dX6_digest_15 : decode cX6_digest 15 = .ok (.invokevirtual 269, 3) := by decide +kernel
theorem dX6_digest_18 : decode cX6_digest 18 = .ok (.iconst 0, 1) := by decide +kernel
theorem dX6_digest_19 : decode cX6_digest 19 = .ok (.istore_n 1, 1) := by decide +kernel
theorem dX6_digest_20 : decode cX6_digest 20 = .ok (.iload_n 1, 1) := by decide +kernel
theorem dX6_digest_21 : decode cX6_digest 21 = .ok (.aload_n 0, 1) := by decide +kernel
theorem dX6_digest_22 : decode cX6_digest 22 = .ok (.getfield 51, 3) := by decide +kernel
theorem dX6_digest_25 : decode cX6_digest 25 = .ok (.if_icmp .ge 20, 3) := by decide +kernel
theorem dX6_digest_28 : decode cX6_digest 28 = .ok (.aload_n 0, 1) := by decide +kernel
theorem dX6_digest_29 : decode cX6_digest 29 = .ok (.aload_n 0, 1) := by decide +kernel
theorem dX6_digest_30 : decode cX6_digest 30 = .ok (.getfield 22, 3) := by decide +kernel
theorem dX6_digest_33 : decode cX6_digest 33 = .ok (.iload_n 1, 1) := by decide +kernel
theorem dX6_digest_34 : decode cX6_digest 34 = .ok (.baload, 1) := by decide +kernel
theorem dX6_digest_35 : decode cX6_digest 35 = .ok (.i2l, 1) := by decide +kernel
theorem dX6_digest_36 : decode cX6_digest 36 = .ok (.invokevirtual 263, 3) := by decide +kernel
theorem dX6_digest_39 : decode cX6_digest 39 = .ok (.iinc 1 1, 3) := by decide +kernel
theorem dX6_digest_42 : decode cX6_digest 42 = .ok (.goto (-22), 3) := by decide +kernel
theorem dX6_digest_45 : decode cX6_digest 45 = .ok (.iconst 0, 1) := by decide +kernel
theorem dX6_digest_46 : decode cX6_digest 46 = .ok (.istore_n 1, 1) := by decide +kernel
theorem dX6_digest_47 : decode cX6_digest 47 = .ok (.iload_n 1, 1) := by decide +kernel
theorem dX6_digest_48 : decode cX6_digest 48 = .ok (.bipush 10, 2) := by decide +kernel
theorem dX6_digest_50 : decode cX6_digest 50 = .ok (.if_icmp .ge 19, 3) := by decide +kernel
theorem dX6_digest_53 : decode cX6_digest 53 = .ok (.aload_n 0, 1) := by decide +kernel
theorem dX6_digest_54 : decode cX6_digest 54 = .ok (.aload_n 0, 1) := by decide +kernel
theorem dX6_digest_55 : decode cX6_digest 55 = .ok (.iload_n 1, 1) := by decide +kernel
theorem dX6_digest_56 : decode cX6_digest 56 = .ok (.invokevirtual 255, 3) := by decide +kernel
theorem dX6_digest_59 : decode cX6_digest 59 = .ok (.i2l, 1) := by decide +kernel
theorem dX6_digest_60 : decode cX6_digest 60 = .ok (.invokevirtual 263, 3) := by decide +kernel
theorem dX6_digest_63 : decode cX6_digest 63 = .ok (.iinc 1 1, 3) := by decide +kernel
theorem dX6_digest_66 : decode cX6_digest 66 = .ok (.goto (-19), 3) := by decide +kernel
theorem dX6_digest_69 : decode cX6_digest 69 = .ok (.aload_n 0, 1) := by decide +kernel
theorem dX6_digest_70 : decode cX6_digest 70 = .ok (.getfield 260, 3) := by decide +kernel
theorem dX6_digest_73 : decode cX6_digest 73 = .ok (.lreturn, 1) := by decide +kernel
theorem dJ6_bitCount_0f7a4_0 : decode cJ6_bitCount_0f7a4 0 = .ok (.iload_n 0, 1) := by decide +kernel
theorem dJ6_bitCount_0f7a4_1 : decode cJ6_bitCount_0f7a4 1 = .ok (.iload_n 0, 1) := by decide +kernel
theorem dJ6_bitCount_0f7a4_2 : decode cJ6_bitCount_0f7a4 2 = .ok (.iconst 1, 1) := by decide +kernel
theorem dJ6_bitCount_0f7a4_3 : decode cJ6_bitCount_0f7a4 3 = .ok (.iushr, 1) := by decide +kernel
theorem dJ6_bitCount_0f7a4_4 : decode cJ6_bitCount_0f7a4 4 = .ok (.ldc_w 265, 3) := by decide +kernel
theorem dJ6_bitCount_0f7a4_7 : decode cJ6_bitCount_0f7a4 7 = .ok (.iand, 1) := by decide +kernel
theorem dJ6_bitCount_0f7a4_8 : decode cJ6_bitCount_0f7a4 8 = .ok (.isub, 1) := by decide +kernel
theorem dJ6_bitCount_0f7a4_9 : decode cJ6_bitCount_0f7a4 9 = .ok (.istore_n 0, 1) := by decide +kernel
theorem dJ6_bitCount_0f7a4_10 : decode cJ6_bitCount_0f7a4 10 = .ok (.iload_n 0, 1) := by decide +kernel
theorem dJ6_bitCount_0f7a4_11 : decode cJ6_bitCount_0f7a4 11 = .ok (.ldc_w 266, 3) := by decide +kernel
theorem dJ6_bitCount_0f7a4_14 : decode cJ6_bitCount_0f7a4 14 = .ok (.iand, 1) := by decide +kernel
theorem dJ6_bitCount_0f7a4_15 : decode cJ6_bitCount_0f7a4 15 = .ok (.iload_n 0, 1) := by decide +kernel
theorem dJ6_bitCount_0f7a4_16 : decode cJ6_bitCount_0f7a4 16 = .ok (.iconst 2, 1) := by decide +kernel
theorem dJ6_bitCount_0f7a4_17 : decode cJ6_bitCount_0f7a4 17 = .ok (.iushr, 1) := by decide +kernel
theorem dJ6_bitCount_0f7a4_18 : decode cJ6_bitCount_0f7a4 18 = .ok (.ldc_w 266, 3) := by decide +kernel
theorem dJ6_bitCount_0f7a4_21 : decode cJ6_bitCount_0f7a4 21 = .ok (.iand, 1) := by decide +kernel
theorem dJ6_bitCount_0f7a4_22 : decode cJ6_bitCount_0f7a4 22 = .ok (.iadd, 1) := by decide +kernel
theorem dJ6_bitCount_0f7a4_23 : decode cJ6_bitCount_0f7a4 23 = .ok (.istore_n 0, 1) := by decide +kernel
theorem dJ6_bitCount_0f7a4_24 : decode cJ6_bitCount_0f7a4 24 = .ok (.iload_n 0, 1) := by decide +kernel
theorem dJ6_bitCount_0f7a4_25 : decode cJ6_bitCount_0f7a4 25 = .ok (.iload_n 0, 1) := by decide +kernel
theorem dJ6_bitCount_0f7a4_26 : decode cJ6_bitCount_0f7a4 26 = .ok (.iconst 4, 1) := by decide +kernel
theorem dJ6_bitCount_0f7a4_27 : decode cJ6_bitCount_0f7a4 27 = .ok (.iushr, 1) := by decide +kernel
theorem dJ6_bitCount_0f7a4_28 : decode cJ6_bitCount_0f7a4 28 = .ok (.iadd, 1) := by decide +kernel
theorem dJ6_bitCount_0f7a4_29 : decode cJ6_bitCount_0f7a4 29 = .ok (.ldc_w 267, 3) := by decide +kernel
theorem dJ6_bitCount_0f7a4_32 : decode cJ6_bitCount_0f7a4 32 = .ok (.iand, 1) := by decide +kernel
theorem dJ6_bitCount_0f7a4_33 : decode cJ6_bitCount_0f7a4 33 = .ok (.istore_n 0, 1) := by decide +kernel
theorem dJ6_bitCount_0f7a4_34 : decode cJ6_bitCount_0f7a4 34 = .ok (.iload_n 0, 1) := by decide +kernel
theorem dJ6_bitCount_0f7a4_35 : decode cJ6_bitCount_0f7a4 35 = .ok (.iload_n 0, 1) := by decide +kernel
theorem dJ6_bitCount_0f7a4_36 : decode cJ6_bitCount_0f7a4 36 = .ok (.bipush 8, 2) := by decide +kernel
theorem dJ6_bitCount_0f7a4_38 : decode cJ6_bitCount_0f7a4 38 = .ok (.iushr, 1) := by decide +kernel
theorem dJ6_bitCount_0f7a4_39 : decode cJ6_bitCount_0f7a4 39 = .ok (.iadd, 1) := by decide +kernel
theorem dJ6_bitCount_0f7a4_40 : decode cJ6_bitCount_0f7a4 40 = .ok (.istore_n 0, 1) := by decide +kernel
theorem dJ6_bitCount_0f7a4_41 : decode cJ6_bitCount_0f7a4 41 = .ok (.iload_n 0, 1) := by decide +kernel
theorem dJ6_bitCount_0f7a4_42 : decode cJ6_bitCount_0f7a4 42 = .ok (.iload_n 0, 1) := by decide +kernel
theorem dJ6_bitCount_0f7a4_43 : decode cJ6_bitCount_0f7a4 43 = .ok (.bipush 16, 2) := by decide +kernel
theorem dJ6_bitCount_0f7a4_45 : decode cJ6_bitCount_0f7a4 45 = .ok (.iushr, 1) := by decide +kernel
theorem dJ6_bitCount_0f7a4_46 : decode cJ6_bitCount_0f7a4 46 = .ok (.iadd, 1) := by decide +kernel
theorem dJ6_bitCount_0f7a4_47 : decode cJ6_bitCount_0f7a4 47 = .ok (.istore_n 0, 1) := by decide +kernel
theorem dJ6_bitCount_0f7a4_48 : decode cJ6_bitCount_0f7a4 48 = .ok (.iload_n 0, 1) := by decide +kernel
theorem dJ6_bitCount_0f7a4_49 : decode cJ6_bitCount_0f7a4 49 = .ok (.bipush 63, 2) := by decide +kernel
theorem dJ6_bitCount_0f7a4_51 : decode cJ6_bitCount_0f7a4 51 = .ok (.iand, 1) := by decide +kernel
theorem dJ6_bitCount_0f7a4_52 : decode cJ6_bitCount_0f7a4 52 = .ok (.ireturn, 1) := by decide +kernel
theorem dJ9_abs_0f7a4_0 : decode cJ9_abs_0f7a4 0 = .ok (.iload_n 0, 1) := by decide +kernel
theorem dJ9_abs_0f7a4_1 : decode cJ9_abs_0f7a4 1 = .ok (.ifCond .ge 8, 3) := by decide +kernel
theorem dJ9_abs_0f7a4_4 : decode cJ9_abs_0f7a4 4 = .ok (.iload_n 0, 1) := by decide +kernel
theorem dJ9_abs_0f7a4_5 : decode cJ9_abs_0f7a4 5 = .ok (.ineg, 1) := by decide +kernel
theorem dJ9_abs_0f7a4_6 : decode cJ9_abs_0f7a4 6 = .ok (.goto 4, 3) := by decide +kernel
theorem dJ9_abs_0f7a4_9 : decode cJ9_abs_0f7a4 9 = .ok (.iload_n 0, 1) := by decide +kernel
theorem dJ9_abs_0f7a4_10 : decode cJ9_abs_0f7a4 10 = .ok (.ireturn, 1) := by decide +kernel
theorem dJ9_max_7cf53_0 : decode cJ9_max_7cf53 0 = .ok (.iload_n 0, 1) := by decide +kernel
theorem dJ9_max_7cf53_1 : decode cJ9_max_7cf53 1 = .ok (.iload_n 1, 1) := by decide +kernel
theorem dJ9_max_7cf53_2 : decode cJ9_max_7cf53 2 = .ok (.if_icmp .lt 7, 3) := by decide +kernel
theorem dJ9_max_7cf53_5 : decode cJ9_max_7cf53 5 = .ok (.iload_n 0, 1) := by decide +kernel
theorem dJ9_max_7cf53_6 : decode cJ9_max_7cf53 6 = .ok (.goto 4, 3) := by decide +kernel
theorem dJ9_max_7cf53_9 : decode cJ9_max_7cf53 9 = .ok (.iload_n 1, 1) := by decide +kernel
theorem dJ9_max_7cf53_10 : decode cJ9_max_7cf53 10 = .ok (.ireturn, 1) := by decide +kernel
theorem dJ7_fill_53178_0 : decode cJ7_fill_53178 0 = .ok (.iconst 0, 1) := by decide +kernel
theorem dJ7_fill_53178_1 : decode cJ7_fill_53178 1 = .ok (.istore_n 2, 1) := by decide +kernel
theorem dJ7_fill_53178_2 : decode cJ7_fill_53178 2 = .ok (.aload_n 0, 1) := by decide +kernel
theorem dJ7_fill_53178_3 : decode cJ7_fill_53178 3 = .ok (.arraylength, 1) := by decide +kernel
theorem dJ7_fill_53178_4 : decode cJ7_fill_53178 4 = .ok (.istore_n 3, 1) := by decide +kernel
theorem dJ7_fill_53178_5 : decode cJ7_fill_53178 5 = .ok (.iload_n 2, 1) := by decide +kernel
theorem dJ7_fill_53178_6 : decode cJ7_fill_53178 6 = .ok (.iload_n 3, 1) := by decide +kernel
theorem dJ7_fill_53178_7 : decode cJ7_fill_53178 7 = .ok (.if_icmp .ge 13, 3) := by decide +kernel
theorem dJ7_fill_53178_10 : decode cJ7_fill_53178 10 = .ok (.aload_n 0, 1) := by decide +kernel
theorem dJ7_fill_53178_11 : decode cJ7_fill_53178 11 = .ok (.iload_n 2, 1) := by decide +kernel
theorem dJ7_fill_53178_12 : decode cJ7_fill_53178 12 = .ok (.iload_n 1, 1) := by decide +kernel
theorem dJ7_fill_53178_13 : decode cJ7_fill_53178 13 = .ok (.iastore, 1) := by decide +kernel
theorem dJ7_fill_53178_14 : decode cJ7_fill_53178 14 = .ok (.iinc 2 1, 3) := by decide +kernel
theorem dJ7_fill_53178_17 : decode cJ7_fill_53178 17 = .ok (.goto (-12), 3) := by decide +kernel
theorem dJ7_fill_53178_20 : decode cJ7_fill_53178 20 = .ok (.return_, 1) := by decide +kernel
theorem dL_law_0 : decode cL_law 0 = .ok (.new 7, 3) := by decide +kernel
theorem dL_law_3 : decode cL_law 3 = .ok (.dup, 1) := by decide +kernel
theorem dL_law_4 : decode cL_law 4 = .ok (.invokespecial 9, 3) := by decide +kernel
theorem dL_law_7 : decode cL_law 7 = .ok (.astore_n 1, 1) := by decide +kernel
theorem dL_law_8 : decode cL_law 8 = .ok (.new 10, 3) := by decide +kernel
theorem dL_law_11 : decode cL_law 11 = .ok (.dup, 1) := by decide +kernel
theorem dL_law_12 : decode cL_law 12 = .ok (.invokespecial 12, 3) := by decide +kernel
theorem dL_law_15 : decode cL_law 15 = .ok (.astore_n 2, 1) := by decide +kernel
theorem dL_law_16 : decode cL_law 16 = .ok (.iconst 0, 1) := by decide +kernel
theorem dL_law_17 : decode cL_law 17 = .ok (.istore_n 3, 1) := by decide +kernel
theorem dL_law_18 : decode cL_law 18 = .ok (.iload_n 3, 1) := by decide +kernel
theorem dL_law_19 : decode cL_law 19 = .ok (.aload_n 0, 1) := by decide +kernel
theorem dL_law_20 : decode cL_law 20 = .ok (.arraylength, 1) := by decide +kernel
theorem dL_law_21 : decode cL_law 21 = .ok (.iconst 5, 1) := by decide +kernel
theorem dL_law_22 : decode cL_law 22 = .ok (.isub, 1) := by decide +kernel
theorem dL_law_23 : decode cL_law 23 = .ok (.if_icmp .gt 740, 3) := by decide +kernel
theorem dL_law_26 : decode cL_law 26 = .ok (.aload_n 0, 1) := by decide +kernel
theorem dL_law_27 : decode cL_law 27 = .ok (.iload_n 3, 1) := by decide +kernel
theorem dL_law_28 : decode cL_law 28 = .ok (.iaload, 1) := by decide +kernel
theorem dL_law_29 : decode cL_law 29 = .ok (.bipush 31, 2) := by decide +kernel
theorem dL_law_31 : decode cL_law 31 = .ok (.iand, 1) := by decide +kernel
theorem dL_law_32 : decode cL_law 32 = .ok (.tableswitch 725 0 23 #[112, 135, 148, 161, 174, 207, 240, 273, 296, 329, 362, 395, 418, 441, 474, 487, 510, 563, 606, 619, 662, 675, 688, 711], 112) := by decide +kernel
theorem dL_law_144 : decode cL_law 144 = .ok (.aload_n 1, 1) := by decide +kernel
theorem dL_law_145 : decode cL_law 145 = .ok (.aload_n 0, 1) := by decide +kernel
theorem dL_law_146 : decode cL_law 146 = .ok (.iload_n 3, 1) := by decide +kernel
theorem dL_law_147 : decode cL_law 147 = .ok (.iconst 1, 1) := by decide +kernel
theorem dL_law_148 : decode cL_law 148 = .ok (.iadd, 1) := by decide +kernel
theorem dL_law_149 : decode cL_law 149 = .ok (.iaload, 1) := by decide +kernel
theorem dL_law_150 : decode cL_law 150 = .ok (.invokevirtual 13, 3) := by decide +kernel
theorem dL_law_153 : decode cL_law 153 = .ok (.aload_n 2, 1) := by decide +kernel
theorem dL_law_154 : decode cL_law 154 = .ok (.aload_n 0, 1) := by decide +kernel
theorem dL_law_155 : decode cL_law 155 = .ok (.iload_n 3, 1) := by decide +kernel
theorem dL_law_156 : decode cL_law 156 = .ok (.iconst 1, 1) := by decide +kernel
theorem dL_law_157 : decode cL_law 157 = .ok (.iadd, 1) := by decide +kernel
theorem dL_law_158 : decode cL_law 158 = .ok (.iaload, 1) := by decide +kernel
theorem dL_law_159 : decode cL_law 159 = .ok (.invokevirtual 17, 3) := by decide +kernel
theorem dL_law_162 : decode cL_law 162 = .ok (.if_icmp .eq 595, 3) := by decide +kernel
theorem dL_law_165 : decode cL_law 165 = .ok (.iconst 0, 1) := by decide +kernel
theorem dL_law_166 : decode cL_law 166 = .ok (.ireturn, 1) := by decide +kernel
theorem dL_law_167 : decode cL_law 167 = .ok (.aload_n 1, 1) := by decide +kernel
theorem dL_law_168 : decode cL_law 168 = .ok (.invokevirtual 18, 3) := by decide +kernel
theorem dL_law_171 : decode cL_law 171 = .ok (.aload_n 2, 1) := by decide +kernel
theorem dL_law_172 : decode cL_law 172 = .ok (.invokevirtual 22, 3) := by decide +kernel
theorem dL_law_175 : decode cL_law 175 = .ok (.if_icmp .eq 582, 3) := by decide +kernel
theorem dL_law_178 : decode cL_law 178 = .ok (.iconst 0, 1) := by decide +kernel
theorem dL_law_179 : decode cL_law 179 = .ok (.ireturn, 1) := by decide +kernel
theorem dL_law_180 : decode cL_law 180 = .ok (.aload_n 1, 1) := by decide +kernel
theorem dL_law_181 : decode cL_law 181 = .ok (.invokevirtual 23, 3) := by decide +kernel
theorem dL_law_184 : decode cL_law 184 = .ok (.aload_n 2, 1) := by decide +kernel
theorem dL_law_185 : decode cL_law 185 = .ok (.invokevirtual 26, 3) := by decide +kernel
theorem dL_law_188 : decode cL_law 188 = .ok (.if_icmp .eq 569, 3) := by decide +kernel
theorem dL_law_191 : decode cL_law 191 = .ok (.iconst 0, 1) := by decide +kernel
theorem dL_law_192 : decode cL_law 192 = .ok (.ireturn, 1) := by decide +kernel
theorem dL_law_193 : decode cL_law 193 = .ok (.aload_n 1, 1) := by decide +kernel
theorem dL_law_194 : decode cL_law 194 = .ok (.invokevirtual 27, 3) := by decide +kernel
theorem dL_law_197 : decode cL_law 197 = .ok (.aload_n 2, 1) := by decide +kernel
theorem dL_law_198 : decode cL_law 198 = .ok (.invokevirtual 30, 3) := by decide +kernel
theorem dL_law_201 : decode cL_law 201 = .ok (.if_icmp .eq 556, 3) := by decide +kernel
theorem dL_law_204 : decode cL_law 204 = .ok (.iconst 0, 1) := by decide +kernel
theorem dL_law_205 : decode cL_law 205 = .ok (.ireturn, 1) := by decide +kernel
theorem dL_law_206 : decode cL_law 206 = .ok (.aload_n 1, 1) := by decide +kernel
theorem dL_law_207 : decode cL_law 207 = .ok (.aload_n 0, 1) := by decide +kernel
theorem dL_law_208 : decode cL_law 208 = .ok (.iload_n 3, 1) := by decide +kernel
theorem dL_law_209 : decode cL_law 209 = .ok (.iconst 1, 1) := by decide +kernel
theorem dL_law_210 : decode cL_law 210 = .ok (.iadd, 1) := by decide +kernel
theorem dL_law_211 : decode cL_law 211 = .ok (.iaload, 1) := by decide +kernel
theorem dL_law_212 : decode cL_law 212 = .ok (.aload_n 0, 1) := by decide +kernel
theorem dL_law_213 : decode cL_law 213 = .ok (.iload_n 3, 1) := by decide +kernel
theorem dL_law_214 : decode cL_law 214 = .ok (.iconst 2, 1) := by decide +kernel
theorem dL_law_215 : decode cL_law 215 = .ok (.iadd, 1) := by decide +kernel
theorem dL_law_216 : decode cL_law 216 = .ok (.iaload, 1) := by decide +kernel
theorem dL_law_217 : decode cL_law 217 = .ok (.invokevirtual 31, 3) := by decide +kernel
theorem dL_law_220 : decode cL_law 220 = .ok (.aload_n 2, 1) := by decide +kernel
theorem dL_law_221 : decode cL_law 221 = .ok (.aload_n 0, 1) := by decide +kernel
theorem dL_law_222 : decode cL_law 222 = .ok (.iload_n 3, 1) := by decide +kernel
theorem dL_law_223 : decode cL_law 223 = .ok (.iconst 1, 1) := by decide +kernel
theorem dL_law_224 : decode cL_law 224 = .ok (.iadd, 1) := by decide +kernel
theorem dL_law_225 : decode cL_law 225 = .ok (.iaload, 1) := by decide +kernel
theorem dL_law_226 : decode cL_law 226 = .ok (.aload_n 0, 1) := by decide +kernel
theorem dL_law_227 : decode cL_law 227 = .ok (.iload_n 3, 1) := by decide +kernel
theorem dL_law_228 : decode cL_law 228 = .ok (.iconst 2, 1) := by decide +kernel
theorem dL_law_229 : decode cL_law 229 = .ok (.iadd, 1) := by decide +kernel
theorem dL_law_230 : decode cL_law 230 = .ok (.iaload, 1) := by decide +kernel
theorem dL_law_231 : decode cL_law 231 = .ok (.invokevirtual 35, 3) := by decide +kernel
theorem dL_law_234 : decode cL_law 234 = .ok (.if_icmp .eq 523, 3) := by decide +kernel
theorem dL_law_237 : decode cL_law 237 = .ok (.iconst 0, 1) := by decide +kernel
theorem dL_law_238 : decode cL_law 238 = .ok (.ireturn, 1) := by decide +kernel
theorem dL_law_239 : decode cL_law 239 = .ok (.aload_n 1, 1) := by decide +kernel
theorem dL_law_240 : decode cL_law 240 = .ok (.aload_n 0, 1) := by decide +kernel
theorem dL_law_241 : decode cL_law 241 = .ok (.iload_n 3, 1) := by decide +kernel
theorem dL_law_242 : decode cL_law 242 = .ok (.iconst 1, 1) := by decide +kernel
theorem dL_law_243 : decode cL_law 243 = .ok (.iadd, 1) := by decide +kernel
theorem dL_law_244 : decode cL_law 244 = .ok (.iaload, 1) := by decide +kernel
theorem dL_law_245 : decode cL_law 245 = .ok (.aload_n 0, 1) := by decide +kernel
theorem dL_law_246 : decode cL_law 246 = .ok (.iload_n 3, 1) := by decide +kernel
theorem dL_law_247 : decode cL_law 247 = .ok (.iconst 2, 1) := by decide +kernel
theorem dL_law_248 : decode cL_law 248 = .ok (.iadd, 1) := by decide +kernel
theorem dL_law_249 : decode cL_law 249 = .ok (.iaload, 1) := by decide +kernel
theorem dL_law_250 : decode cL_law 250 = .ok (.invokevirtual 36, 3) := by decide +kernel
theorem dL_law_253 : decode cL_law 253 = .ok (.aload_n 2, 1) := by decide +kernel
theorem dL_law_254 : decode cL_law 254 = .ok (.aload_n 0, 1) := by decide +kernel
theorem dL_law_255 : decode cL_law 255 = .ok (.iload_n 3, 1) := by decide +kernel
theorem dL_law_256 : decode cL_law 256 = .ok (.iconst 1, 1) := by decide +kernel
theorem dL_law_257 : decode cL_law 257 = .ok (.iadd, 1) := by decide +kernel
theorem dL_law_258 : decode cL_law 258 = .ok (.iaload, 1) := by decide +kernel
theorem dL_law_259 : decode cL_law 259 = .ok (.aload_n 0, 1) := by decide +kernel
theorem dL_law_260 : decode cL_law 260 = .ok (.iload_n 3, 1) := by decide +kernel
theorem dL_law_261 : decode cL_law 261 = .ok (.iconst 2, 1) := by decide +kernel
theorem dL_law_262 : decode cL_law 262 = .ok (.iadd, 1) := by decide +kernel
theorem dL_law_263 : decode cL_law 263 = .ok (.iaload, 1) := by decide +kernel
theorem dL_law_264 : decode cL_law 264 = .ok (.invokevirtual 39, 3) := by decide +kernel
theorem dL_law_267 : decode cL_law 267 = .ok (.if_icmp .eq 490, 3) := by decide +kernel
theorem dL_law_270 : decode cL_law 270 = .ok (.iconst 0, 1) := by decide +kernel
theorem dL_law_271 : decode cL_law 271 = .ok (.ireturn, 1) := by decide +kernel
theorem dL_law_272 : decode cL_law 272 = .ok (.aload_n 1, 1) := by decide +kernel
theorem dL_law_273 : decode cL_law 273 = .ok (.aload_n 0, 1) := by decide +kernel
theorem dL_law_274 : decode cL_law 274 = .ok (.iload_n 3, 1) := by decide +kernel
theorem dL_law_275 : decode cL_law 275 = .ok (.iconst 1, 1) := by decide +kernel
theorem dL_law_276 : decode cL_law 276 = .ok (.iadd, 1) := by decide +kernel
theorem dL_law_277 : decode cL_law 277 = .ok (.iaload, 1) := by decide +kernel
theorem dL_law_278 : decode cL_law 278 = .ok (.aload_n 0, 1) := by decide +kernel
theorem dL_law_279 : decode cL_law 279 = .ok (.iload_n 3, 1) := by decide +kernel
theorem dL_law_280 : decode cL_law 280 = .ok (.iconst 2, 1) := by decide +kernel
theorem dL_law_281 : decode cL_law 281 = .ok (.iadd, 1) := by decide +kernel
theorem dL_law_282 : decode cL_law 282 = .ok (.iaload, 1) := by decide +kernel
theorem dL_law_283 : decode cL_law 283 = .ok (.invokevirtual 40, 3) := by decide +kernel
theorem dL_law_286 : decode cL_law 286 = .ok (.aload_n 2, 1) := by decide +kernel
theorem dL_law_287 : decode cL_law 287 = .ok (.aload_n 0, 1) := by decide +kernel
theorem dL_law_288 : decode cL_law 288 = .ok (.iload_n 3, 1) := by decide +kernel
theorem dL_law_289 : decode cL_law 289 = .ok (.iconst 1, 1) := by decide +kernel
theorem dL_law_290 : decode cL_law 290 = .ok (.iadd, 1) := by decide +kernel
theorem dL_law_291 : decode cL_law 291 = .ok (.iaload, 1) := by decide +kernel
theorem dL_law_292 : decode cL_law 292 = .ok (.aload_n 0, 1) := by decide +kernel
theorem dL_law_293 : decode cL_law 293 = .ok (.iload_n 3, 1) := by decide +kernel
theorem dL_law_294 : decode cL_law 294 = .ok (.iconst 2, 1) := by decide +kernel
theorem dL_law_295 : decode cL_law 295 = .ok (.iadd, 1) := by decide +kernel
theorem dL_law_296 : decode cL_law 296 = .ok (.iaload, 1) := by decide +kernel
theorem dL_law_297 : decode cL_law 297 = .ok (.invokevirtual 43, 3) := by decide +kernel
theorem dL_law_300 : decode cL_law 300 = .ok (.if_icmp .eq 457, 3) := by decide +kernel
theorem dL_law_303 : decode cL_law 303 = .ok (.iconst 0, 1) := by decide +kernel
theorem dL_law_304 : decode cL_law 304 = .ok (.ireturn, 1) := by decide +kernel
theorem dL_law_305 : decode cL_law 305 = .ok (.aload_n 1, 1) := by decide +kernel
theorem dL_law_306 : decode cL_law 306 = .ok (.aload_n 0, 1) := by decide +kernel
theorem dL_law_307 : decode cL_law 307 = .ok (.iload_n 3, 1) := by decide +kernel
theorem dL_law_308 : decode cL_law 308 = .ok (.iconst 1, 1) := by decide +kernel
theorem dL_law_309 : decode cL_law 309 = .ok (.iadd, 1) := by decide +kernel
theorem dL_law_310 : decode cL_law 310 = .ok (.iaload, 1) := by decide +kernel
theorem dL_law_311 : decode cL_law 311 = .ok (.invokevirtual 44, 3) := by decide +kernel
theorem dL_law_314 : decode cL_law 314 = .ok (.aload_n 2, 1) := by decide +kernel
theorem dL_law_315 : decode cL_law 315 = .ok (.aload_n 0, 1) := by decide +kernel
theorem dL_law_316 : decode cL_law 316 = .ok (.iload_n 3, 1) := by decide +kernel
theorem dL_law_317 : decode cL_law 317 = .ok (.iconst 1, 1) := by decide +kernel
theorem dL_law_318 : decode cL_law 318 = .ok (.iadd, 1) := by decide +kernel
theorem dL_law_319 : decode cL_law 319 = .ok (.iaload, 1) := by decide +kernel
theorem dL_law_320 : decode cL_law 320 = .ok (.invokevirtual 47, 3) := by decide +kernel
theorem dL_law_323 : decode cL_law 323 = .ok (.if_icmp .eq 434, 3) := by decide +kernel
theorem dL_law_326 : decode cL_law 326 = .ok (.iconst 0, 1) := by decide +kernel
theorem dL_law_327 : decode cL_law 327 = .ok (.ireturn, 1) := by decide +kernel
theorem dL_law_328 : decode cL_law 328 = .ok (.aload_n 1, 1) := by decide +kernel
theorem dL_law_329 : decode cL_law 329 = .ok (.aload_n 0, 1) := by decide +kernel
theorem dL_law_330 : decode cL_law 330 = .ok (.iload_n 3, 1) := by decide +kernel
theorem dL_law_331 : decode cL_law 331 = .ok (.iconst 1, 1) := by decide +kernel
theorem dL_law_332 : decode cL_law 332 = .ok (.iadd, 1) := by decide +kernel
theorem dL_law_333 : decode cL_law 333 = .ok (.iaload, 1) := by decide +kernel
theorem dL_law_334 : decode cL_law 334 = .ok (.aload_n 0, 1) := by decide +kernel
theorem dL_law_335 : decode cL_law 335 = .ok (.iload_n 3, 1) := by decide +kernel
theorem dL_law_336 : decode cL_law 336 = .ok (.iconst 2, 1) := by decide +kernel
theorem dL_law_337 : decode cL_law 337 = .ok (.iadd, 1) := by decide +kernel
theorem dL_law_338 : decode cL_law 338 = .ok (.iaload, 1) := by decide +kernel
theorem dL_law_339 : decode cL_law 339 = .ok (.invokevirtual 48, 3) := by decide +kernel
theorem dL_law_342 : decode cL_law 342 = .ok (.aload_n 2, 1) := by decide +kernel
theorem dL_law_343 : decode cL_law 343 = .ok (.aload_n 0, 1) := by decide +kernel
theorem dL_law_344 : decode cL_law 344 = .ok (.iload_n 3, 1) := by decide +kernel
theorem dL_law_345 : decode cL_law 345 = .ok (.iconst 1, 1) := by decide +kernel
theorem dL_law_346 : decode cL_law 346 = .ok (.iadd, 1) := by decide +kernel
theorem dL_law_347 : decode cL_law 347 = .ok (.iaload, 1) := by decide +kernel
theorem dL_law_348 : decode cL_law 348 = .ok (.aload_n 0, 1) := by decide +kernel
theorem dL_law_349 : decode cL_law 349 = .ok (.iload_n 3, 1) := by decide +kernel
theorem dL_law_350 : decode cL_law 350 = .ok (.iconst 2, 1) := by decide +kernel
theorem dL_law_351 : decode cL_law 351 = .ok (.iadd, 1) := by decide +kernel
theorem dL_law_352 : decode cL_law 352 = .ok (.iaload, 1) := by decide +kernel
theorem dL_law_353 : decode cL_law 353 = .ok (.invokevirtual 51, 3) := by decide +kernel
theorem dL_law_356 : decode cL_law 356 = .ok (.if_icmp .eq 401, 3) := by decide +kernel
theorem dL_law_359 : decode cL_law 359 = .ok (.iconst 0, 1) := by decide +kernel
theorem dL_law_360 : decode cL_law 360 = .ok (.ireturn, 1) := by decide +kernel
theorem dL_law_361 : decode cL_law 361 = .ok (.aload_n 1, 1) := by decide +kernel
theorem dL_law_362 : decode cL_law 362 = .ok (.aload_n 0, 1) := by decide +kernel
theorem dL_law_363 : decode cL_law 363 = .ok (.iload_n 3, 1) := by decide +kernel
theorem dL_law_364 : decode cL_law 364 = .ok (.iconst 1, 1) := by decide +kernel
theorem dL_law_365 : decode cL_law 365 = .ok (.iadd, 1) := by decide +kernel
theorem dL_law_366 : decode cL_law 366 = .ok (.iaload, 1) := by decide +kernel
theorem dL_law_367 : decode cL_law 367 = .ok (.aload_n 0, 1) := by decide +kernel
theorem dL_law_368 : decode cL_law 368 = .ok (.iload_n 3, 1) := by decide +kernel
theorem dL_law_369 : decode cL_law 369 = .ok (.iconst 2, 1) := by decide +kernel
theorem dL_law_370 : decode cL_law 370 = .ok (.iadd, 1) := by decide +kernel
theorem dL_law_371 : decode cL_law 371 = .ok (.iaload, 1) := by decide +kernel
theorem dL_law_372 : decode cL_law 372 = .ok (.invokevirtual 52, 3) := by decide +kernel
theorem dL_law_375 : decode cL_law 375 = .ok (.aload_n 2, 1) := by decide +kernel
theorem dL_law_376 : decode cL_law 376 = .ok (.aload_n 0, 1) := by decide +kernel
theorem dL_law_377 : decode cL_law 377 = .ok (.iload_n 3, 1) := by decide +kernel
theorem dL_law_378 : decode cL_law 378 = .ok (.iconst 1, 1) := by decide +kernel
theorem dL_law_379 : decode cL_law 379 = .ok (.iadd, 1) := by decide +kernel
theorem dL_law_380 : decode cL_law 380 = .ok (.iaload, 1) := by decide +kernel
theorem dL_law_381 : decode cL_law 381 = .ok (.aload_n 0, 1) := by decide +kernel
theorem dL_law_382 : decode cL_law 382 = .ok (.iload_n 3, 1) := by decide +kernel
theorem dL_law_383 : decode cL_law 383 = .ok (.iconst 2, 1) := by decide +kernel
theorem dL_law_384 : decode cL_law 384 = .ok (.iadd, 1) := by decide +kernel
theorem dL_law_385 : decode cL_law 385 = .ok (.iaload, 1) := by decide +kernel
theorem dL_law_386 : decode cL_law 386 = .ok (.invokevirtual 55, 3) := by decide +kernel
theorem dL_law_389 : decode cL_law 389 = .ok (.if_icmp .eq 368, 3) := by decide +kernel
theorem dL_law_392 : decode cL_law 392 = .ok (.iconst 0, 1) := by decide +kernel
theorem dL_law_393 : decode cL_law 393 = .ok (.ireturn, 1) := by decide +kernel
theorem dL_law_394 : decode cL_law 394 = .ok (.aload_n 1, 1) := by decide +kernel
theorem dL_law_395 : decode cL_law 395 = .ok (.aload_n 0, 1) := by decide +kernel
theorem dL_law_396 : decode cL_law 396 = .ok (.iload_n 3, 1) := by decide +kernel
theorem dL_law_397 : decode cL_law 397 = .ok (.iconst 1, 1) := by decide +kernel
theorem dL_law_398 : decode cL_law 398 = .ok (.iadd, 1) := by decide +kernel
theorem dL_law_399 : decode cL_law 399 = .ok (.iaload, 1) := by decide +kernel
theorem dL_law_400 : decode cL_law 400 = .ok (.aload_n 0, 1) := by decide +kernel
theorem dL_law_401 : decode cL_law 401 = .ok (.iload_n 3, 1) := by decide +kernel
theorem dL_law_402 : decode cL_law 402 = .ok (.iconst 2, 1) := by decide +kernel
theorem dL_law_403 : decode cL_law 403 = .ok (.iadd, 1) := by decide +kernel
theorem dL_law_404 : decode cL_law 404 = .ok (.iaload, 1) := by decide +kernel
theorem dL_law_405 : decode cL_law 405 = .ok (.invokevirtual 56, 3) := by decide +kernel
theorem dL_law_408 : decode cL_law 408 = .ok (.aload_n 2, 1) := by decide +kernel
theorem dL_law_409 : decode cL_law 409 = .ok (.aload_n 0, 1) := by decide +kernel
theorem dL_law_410 : decode cL_law 410 = .ok (.iload_n 3, 1) := by decide +kernel
theorem dL_law_411 : decode cL_law 411 = .ok (.iconst 1, 1) := by decide +kernel
theorem dL_law_412 : decode cL_law 412 = .ok (.iadd, 1) := by decide +kernel
theorem dL_law_413 : decode cL_law 413 = .ok (.iaload, 1) := by decide +kernel
theorem dL_law_414 : decode cL_law 414 = .ok (.aload_n 0, 1) := by decide +kernel
theorem dL_law_415 : decode cL_law 415 = .ok (.iload_n 3, 1) := by decide +kernel
theorem dL_law_416 : decode cL_law 416 = .ok (.iconst 2, 1) := by decide +kernel
theorem dL_law_417 : decode cL_law 417 = .ok (.iadd, 1) := by decide +kernel
theorem dL_law_418 : decode cL_law 418 = .ok (.iaload, 1) := by decide +kernel
theorem dL_law_419 : decode cL_law 419 = .ok (.invokevirtual 59, 3) := by decide +kernel
theorem dL_law_422 : decode cL_law 422 = .ok (.if_icmp .eq 335, 3) := by decide +kernel
theorem dL_law_425 : decode cL_law 425 = .ok (.iconst 0, 1) := by decide +kernel
theorem dL_law_426 : decode cL_law 426 = .ok (.ireturn, 1) := by decide +kernel
theorem dL_law_427 : decode cL_law 427 = .ok (.aload_n 1, 1) := by decide +kernel
theorem dL_law_428 : decode cL_law 428 = .ok (.aload_n 0, 1) := by decide +kernel
theorem dL_law_429 : decode cL_law 429 = .ok (.iload_n 3, 1) := by decide +kernel
theorem dL_law_430 : decode cL_law 430 = .ok (.iconst 1, 1) := by decide +kernel
theorem dL_law_431 : decode cL_law 431 = .ok (.iadd, 1) := by decide +kernel
theorem dL_law_432 : decode cL_law 432 = .ok (.iaload, 1) := by decide +kernel
theorem dL_law_433 : decode cL_law 433 = .ok (.invokevirtual 60, 3) := by decide +kernel
theorem dL_law_436 : decode cL_law 436 = .ok (.aload_n 2, 1) := by decide +kernel
theorem dL_law_437 : decode cL_law 437 = .ok (.aload_n 0, 1) := by decide +kernel
theorem dL_law_438 : decode cL_law 438 = .ok (.iload_n 3, 1) := by decide +kernel
theorem dL_law_439 : decode cL_law 439 = .ok (.iconst 1, 1) := by decide +kernel
theorem dL_law_440 : decode cL_law 440 = .ok (.iadd, 1) := by decide +kernel
theorem dL_law_441 : decode cL_law 441 = .ok (.iaload, 1) := by decide +kernel
theorem dL_law_442 : decode cL_law 442 = .ok (.invokevirtual 63, 3) := by decide +kernel
theorem dL_law_445 : decode cL_law 445 = .ok (.if_icmp .eq 312, 3) := by decide +kernel
theorem dL_law_448 : decode cL_law 448 = .ok (.iconst 0, 1) := by decide +kernel
theorem dL_law_449 : decode cL_law 449 = .ok (.ireturn, 1) := by decide +kernel
theorem dL_law_450 : decode cL_law 450 = .ok (.aload_n 1, 1) := by decide +kernel
theorem dL_law_451 : decode cL_law 451 = .ok (.aload_n 0, 1) := by decide +kernel
theorem dL_law_452 : decode cL_law 452 = .ok (.iload_n 3, 1) := by decide +kernel
theorem dL_law_453 : decode cL_law 453 = .ok (.iconst 1, 1) := by decide +kernel
theorem dL_law_454 : decode cL_law 454 = .ok (.iadd, 1) := by decide +kernel
theorem dL_law_455 : decode cL_law 455 = .ok (.iaload, 1) := by decide +kernel
theorem dL_law_456 : decode cL_law 456 = .ok (.invokevirtual 64, 3) := by decide +kernel
theorem dL_law_459 : decode cL_law 459 = .ok (.aload_n 2, 1) := by decide +kernel
theorem dL_law_460 : decode cL_law 460 = .ok (.aload_n 0, 1) := by decide +kernel
theorem dL_law_461 : decode cL_law 461 = .ok (.iload_n 3, 1) := by decide +kernel
theorem dL_law_462 : decode cL_law 462 = .ok (.iconst 1, 1) := by decide +kernel
theorem dL_law_463 : decode cL_law 463 = .ok (.iadd, 1) := by decide +kernel
theorem dL_law_464 : decode cL_law 464 = .ok (.iaload, 1) := by decide +kernel
theorem dL_law_465 : decode cL_law 465 = .ok (.invokevirtual 67, 3) := by decide +kernel
theorem dL_law_468 : decode cL_law 468 = .ok (.if_icmp .eq 289, 3) := by decide +kernel
theorem dL_law_471 : decode cL_law 471 = .ok (.iconst 0, 1) := by decide +kernel
theorem dL_law_472 : decode cL_law 472 = .ok (.ireturn, 1) := by decide +kernel
theorem dL_law_473 : decode cL_law 473 = .ok (.aload_n 1, 1) := by decide +kernel
theorem dL_law_474 : decode cL_law 474 = .ok (.aload_n 0, 1) := by decide +kernel
theorem dL_law_475 : decode cL_law 475 = .ok (.iload_n 3, 1) := by decide +kernel
theorem dL_law_476 : decode cL_law 476 = .ok (.iconst 1, 1) := by decide +kernel
theorem dL_law_477 : decode cL_law 477 = .ok (.iadd, 1) := by decide +kernel
theorem dL_law_478 : decode cL_law 478 = .ok (.iaload, 1) := by decide +kernel
theorem dL_law_479 : decode cL_law 479 = .ok (.aload_n 0, 1) := by decide +kernel
theorem dL_law_480 : decode cL_law 480 = .ok (.iload_n 3, 1) := by decide +kernel
theorem dL_law_481 : decode cL_law 481 = .ok (.iconst 2, 1) := by decide +kernel
theorem dL_law_482 : decode cL_law 482 = .ok (.iadd, 1) := by decide +kernel
theorem dL_law_483 : decode cL_law 483 = .ok (.iaload, 1) := by decide +kernel
theorem dL_law_484 : decode cL_law 484 = .ok (.invokevirtual 68, 3) := by decide +kernel
theorem dL_law_487 : decode cL_law 487 = .ok (.aload_n 2, 1) := by decide +kernel
theorem dL_law_488 : decode cL_law 488 = .ok (.aload_n 0, 1) := by decide +kernel
theorem dL_law_489 : decode cL_law 489 = .ok (.iload_n 3, 1) := by decide +kernel
theorem dL_law_490 : decode cL_law 490 = .ok (.iconst 1, 1) := by decide +kernel
theorem dL_law_491 : decode cL_law 491 = .ok (.iadd, 1) := by decide +kernel
theorem dL_law_492 : decode cL_law 492 = .ok (.iaload, 1) := by decide +kernel
theorem dL_law_493 : decode cL_law 493 = .ok (.aload_n 0, 1) := by decide +kernel
theorem dL_law_494 : decode cL_law 494 = .ok (.iload_n 3, 1) := by decide +kernel
theorem dL_law_495 : decode cL_law 495 = .ok (.iconst 2, 1) := by decide +kernel
theorem dL_law_496 : decode cL_law 496 = .ok (.iadd, 1) := by decide +kernel
theorem dL_law_497 : decode cL_law 497 = .ok (.iaload, 1) := by decide +kernel
theorem dL_law_498 : decode cL_law 498 = .ok (.invokevirtual 71, 3) := by decide +kernel
theorem dL_law_501 : decode cL_law 501 = .ok (.if_icmp .eq 256, 3) := by decide +kernel
theorem dL_law_504 : decode cL_law 504 = .ok (.iconst 0, 1) := by decide +kernel
theorem dL_law_505 : decode cL_law 505 = .ok (.ireturn, 1) := by decide +kernel
theorem dL_law_506 : decode cL_law 506 = .ok (.aload_n 1, 1) := by decide +kernel
theorem dL_law_507 : decode cL_law 507 = .ok (.invokevirtual 72, 3) := by decide +kernel
theorem dL_law_510 : decode cL_law 510 = .ok (.aload_n 2, 1) := by decide +kernel
theorem dL_law_511 : decode cL_law 511 = .ok (.invokevirtual 75, 3) := by decide +kernel
theorem dL_law_514 : decode cL_law 514 = .ok (.if_icmp .eq 243, 3) := by decide +kernel
theorem dL_law_517 : decode cL_law 517 = .ok (.iconst 0, 1) := by decide +kernel
theorem dL_law_518 : decode cL_law 518 = .ok (.ireturn, 1) := by decide +kernel
theorem dL_law_519 : decode cL_law 519 = .ok (.aload_n 1, 1) := by decide +kernel
theorem dL_law_520 : decode cL_law 520 = .ok (.aload_n 0, 1) := by decide +kernel
theorem dL_law_521 : decode cL_law 521 = .ok (.iload_n 3, 1) := by decide +kernel
theorem dL_law_522 : decode cL_law 522 = .ok (.iconst 1, 1) := by decide +kernel
theorem dL_law_523 : decode cL_law 523 = .ok (.iadd, 1) := by decide +kernel
theorem dL_law_524 : decode cL_law 524 = .ok (.iaload, 1) := by decide +kernel
theorem dL_law_525 : decode cL_law 525 = .ok (.invokevirtual 76, 3) := by decide +kernel
theorem dL_law_528 : decode cL_law 528 = .ok (.aload_n 2, 1) := by decide +kernel
theorem dL_law_529 : decode cL_law 529 = .ok (.aload_n 0, 1) := by decide +kernel
theorem dL_law_530 : decode cL_law 530 = .ok (.iload_n 3, 1) := by decide +kernel
theorem dL_law_531 : decode cL_law 531 = .ok (.iconst 1, 1) := by decide +kernel
theorem dL_law_532 : decode cL_law 532 = .ok (.iadd, 1) := by decide +kernel
theorem dL_law_533 : decode cL_law 533 = .ok (.iaload, 1) := by decide +kernel
theorem dL_law_534 : decode cL_law 534 = .ok (.invokevirtual 79, 3) := by decide +kernel
theorem dL_law_537 : decode cL_law 537 = .ok (.if_icmp .eq 220, 3) := by decide +kernel
theorem dL_law_540 : decode cL_law 540 = .ok (.iconst 0, 1) := by decide +kernel
theorem dL_law_541 : decode cL_law 541 = .ok (.ireturn, 1) := by decide +kernel
theorem dL_law_542 : decode cL_law 542 = .ok (.aload_n 1, 1) := by decide +kernel
theorem dL_law_543 : decode cL_law 543 = .ok (.aload_n 0, 1) := by decide +kernel
theorem dL_law_544 : decode cL_law 544 = .ok (.iload_n 3, 1) := by decide +kernel
theorem dL_law_545 : decode cL_law 545 = .ok (.iconst 1, 1) := by decide +kernel
theorem dL_law_546 : decode cL_law 546 = .ok (.iadd, 1) := by decide +kernel
theorem dL_law_547 : decode cL_law 547 = .ok (.iaload, 1) := by decide +kernel
theorem dL_law_548 : decode cL_law 548 = .ok (.aload_n 0, 1) := by decide +kernel
theorem dL_law_549 : decode cL_law 549 = .ok (.iload_n 3, 1) := by decide +kernel
theorem dL_law_550 : decode cL_law 550 = .ok (.iconst 2, 1) := by decide +kernel
theorem dL_law_551 : decode cL_law 551 = .ok (.iadd, 1) := by decide +kernel
theorem dL_law_552 : decode cL_law 552 = .ok (.iaload, 1) := by decide +kernel
theorem dL_law_553 : decode cL_law 553 = .ok (.aload_n 0, 1) := by decide +kernel
theorem dL_law_554 : decode cL_law 554 = .ok (.iload_n 3, 1) := by decide +kernel
theorem dL_law_555 : decode cL_law 555 = .ok (.iconst 3, 1) := by decide +kernel
theorem dL_law_556 : decode cL_law 556 = .ok (.iadd, 1) := by decide +kernel
theorem dL_law_557 : decode cL_law 557 = .ok (.iaload, 1) := by decide +kernel
theorem dL_law_558 : decode cL_law 558 = .ok (.aload_n 0, 1) := by decide +kernel
theorem dL_law_559 : decode cL_law 559 = .ok (.iload_n 3, 1) := by decide +kernel
theorem dL_law_560 : decode cL_law 560 = .ok (.iconst 4, 1) := by decide +kernel
theorem dL_law_561 : decode cL_law 561 = .ok (.iadd, 1) := by decide +kernel
theorem dL_law_562 : decode cL_law 562 = .ok (.iaload, 1) := by decide +kernel
theorem dL_law_563 : decode cL_law 563 = .ok (.invokevirtual 80, 3) := by decide +kernel
theorem dL_law_566 : decode cL_law 566 = .ok (.aload_n 2, 1) := by decide +kernel
theorem dL_law_567 : decode cL_law 567 = .ok (.aload_n 0, 1) := by decide +kernel
theorem dL_law_568 : decode cL_law 568 = .ok (.iload_n 3, 1) := by decide +kernel
theorem dL_law_569 : decode cL_law 569 = .ok (.iconst 1, 1) := by decide +kernel
theorem dL_law_570 : decode cL_law 570 = .ok (.iadd, 1) := by decide +kernel
theorem dL_law_571 : decode cL_law 571 = .ok (.iaload, 1) := by decide +kernel
theorem dL_law_572 : decode cL_law 572 = .ok (.aload_n 0, 1) := by decide +kernel
theorem dL_law_573 : decode cL_law 573 = .ok (.iload_n 3, 1) := by decide +kernel
theorem dL_law_574 : decode cL_law 574 = .ok (.iconst 2, 1) := by decide +kernel
theorem dL_law_575 : decode cL_law 575 = .ok (.iadd, 1) := by decide +kernel
theorem dL_law_576 : decode cL_law 576 = .ok (.iaload, 1) := by decide +kernel
theorem dL_law_577 : decode cL_law 577 = .ok (.aload_n 0, 1) := by decide +kernel
theorem dL_law_578 : decode cL_law 578 = .ok (.iload_n 3, 1) := by decide +kernel
theorem dL_law_579 : decode cL_law 579 = .ok (.iconst 3, 1) := by decide +kernel
theorem dL_law_580 : decode cL_law 580 = .ok (.iadd, 1) := by decide +kernel
theorem dL_law_581 : decode cL_law 581 = .ok (.iaload, 1) := by decide +kernel
theorem dL_law_582 : decode cL_law 582 = .ok (.aload_n 0, 1) := by decide +kernel
theorem dL_law_583 : decode cL_law 583 = .ok (.iload_n 3, 1) := by decide +kernel
theorem dL_law_584 : decode cL_law 584 = .ok (.iconst 4, 1) := by decide +kernel
theorem dL_law_585 : decode cL_law 585 = .ok (.iadd, 1) := by decide +kernel
theorem dL_law_586 : decode cL_law 586 = .ok (.iaload, 1) := by decide +kernel
theorem dL_law_587 : decode cL_law 587 = .ok (.invokevirtual 84, 3) := by decide +kernel
theorem dL_law_590 : decode cL_law 590 = .ok (.if_icmp .eq 167, 3) := by decide +kernel
theorem dL_law_593 : decode cL_law 593 = .ok (.iconst 0, 1) := by decide +kernel
theorem dL_law_594 : decode cL_law 594 = .ok (.ireturn, 1) := by decide +kernel
theorem dL_law_595 : decode cL_law 595 = .ok (.aload_n 1, 1) := by decide +kernel
theorem dL_law_596 : decode cL_law 596 = .ok (.aload_n 0, 1) := by decide +kernel
theorem dL_law_597 : decode cL_law 597 = .ok (.iload_n 3, 1) := by decide +kernel
theorem dL_law_598 : decode cL_law 598 = .ok (.iconst 1, 1) := by decide +kernel
theorem dL_law_599 : decode cL_law 599 = .ok (.iadd, 1) := by decide +kernel
theorem dL_law_600 : decode cL_law 600 = .ok (.iaload, 1) := by decide +kernel
theorem dL_law_601 : decode cL_law 601 = .ok (.aload_n 0, 1) := by decide +kernel
theorem dL_law_602 : decode cL_law 602 = .ok (.iload_n 3, 1) := by decide +kernel
theorem dL_law_603 : decode cL_law 603 = .ok (.iconst 2, 1) := by decide +kernel
theorem dL_law_604 : decode cL_law 604 = .ok (.iadd, 1) := by decide +kernel
theorem dL_law_605 : decode cL_law 605 = .ok (.iaload, 1) := by decide +kernel
theorem dL_law_606 : decode cL_law 606 = .ok (.aload_n 0, 1) := by decide +kernel
theorem dL_law_607 : decode cL_law 607 = .ok (.iload_n 3, 1) := by decide +kernel
theorem dL_law_608 : decode cL_law 608 = .ok (.iconst 3, 1) := by decide +kernel
theorem dL_law_609 : decode cL_law 609 = .ok (.iadd, 1) := by decide +kernel
theorem dL_law_610 : decode cL_law 610 = .ok (.iaload, 1) := by decide +kernel
theorem dL_law_611 : decode cL_law 611 = .ok (.invokevirtual 85, 3) := by decide +kernel
theorem dL_law_614 : decode cL_law 614 = .ok (.aload_n 2, 1) := by decide +kernel
theorem dL_law_615 : decode cL_law 615 = .ok (.aload_n 0, 1) := by decide +kernel
theorem dL_law_616 : decode cL_law 616 = .ok (.iload_n 3, 1) := by decide +kernel
theorem dL_law_617 : decode cL_law 617 = .ok (.iconst 1, 1) := by decide +kernel
theorem dL_law_618 : decode cL_law 618 = .ok (.iadd, 1) := by decide +kernel
theorem dL_law_619 : decode cL_law 619 = .ok (.iaload, 1) := by decide +kernel
theorem dL_law_620 : decode cL_law 620 = .ok (.aload_n 0, 1) := by decide +kernel
theorem dL_law_621 : decode cL_law 621 = .ok (.iload_n 3, 1) := by decide +kernel
theorem dL_law_622 : decode cL_law 622 = .ok (.iconst 2, 1) := by decide +kernel
theorem dL_law_623 : decode cL_law 623 = .ok (.iadd, 1) := by decide +kernel
theorem dL_law_624 : decode cL_law 624 = .ok (.iaload, 1) := by decide +kernel
theorem dL_law_625 : decode cL_law 625 = .ok (.aload_n 0, 1) := by decide +kernel
theorem dL_law_626 : decode cL_law 626 = .ok (.iload_n 3, 1) := by decide +kernel
theorem dL_law_627 : decode cL_law 627 = .ok (.iconst 3, 1) := by decide +kernel
theorem dL_law_628 : decode cL_law 628 = .ok (.iadd, 1) := by decide +kernel
theorem dL_law_629 : decode cL_law 629 = .ok (.iaload, 1) := by decide +kernel
theorem dL_law_630 : decode cL_law 630 = .ok (.invokevirtual 89, 3) := by decide +kernel
theorem dL_law_633 : decode cL_law 633 = .ok (.if_icmp .eq 124, 3) := by decide +kernel
theorem dL_law_636 : decode cL_law 636 = .ok (.iconst 0, 1) := by decide +kernel
theorem dL_law_637 : decode cL_law 637 = .ok (.ireturn, 1) := by decide +kernel
theorem dL_law_638 : decode cL_law 638 = .ok (.aload_n 1, 1) := by decide +kernel
theorem dL_law_639 : decode cL_law 639 = .ok (.invokevirtual 90, 3) := by decide +kernel
theorem dL_law_642 : decode cL_law 642 = .ok (.aload_n 2, 1) := by decide +kernel
theorem dL_law_643 : decode cL_law 643 = .ok (.invokevirtual 93, 3) := by decide +kernel
theorem dL_law_646 : decode cL_law 646 = .ok (.if_icmp .eq 111, 3) := by decide +kernel
theorem dL_law_649 : decode cL_law 649 = .ok (.iconst 0, 1) := by decide +kernel
theorem dL_law_650 : decode cL_law 650 = .ok (.ireturn, 1) := by decide +kernel
theorem dL_law_651 : decode cL_law 651 = .ok (.aload_n 1, 1) := by decide +kernel
theorem dL_law_652 : decode cL_law 652 = .ok (.aload_n 0, 1) := by decide +kernel
theorem dL_law_653 : decode cL_law 653 = .ok (.iload_n 3, 1) := by decide +kernel
theorem dL_law_654 : decode cL_law 654 = .ok (.iconst 1, 1) := by decide +kernel
theorem dL_law_655 : decode cL_law 655 = .ok (.iadd, 1) := by decide +kernel
theorem dL_law_656 : decode cL_law 656 = .ok (.iaload, 1) := by decide +kernel
theorem dL_law_657 : decode cL_law 657 = .ok (.aload_n 0, 1) := by decide +kernel
theorem dL_law_658 : decode cL_law 658 = .ok (.iload_n 3, 1) := by decide +kernel
theorem dL_law_659 : decode cL_law 659 = .ok (.iconst 2, 1) := by decide +kernel
theorem dL_law_660 : decode cL_law 660 = .ok (.iadd, 1) := by decide +kernel
theorem dL_law_661 : decode cL_law 661 = .ok (.iaload, 1) := by decide +kernel
theorem dL_law_662 : decode cL_law 662 = .ok (.aload_n 0, 1) := by decide +kernel
theorem dL_law_663 : decode cL_law 663 = .ok (.iload_n 3, 1) := by decide +kernel
theorem dL_law_664 : decode cL_law 664 = .ok (.iconst 3, 1) := by decide +kernel
theorem dL_law_665 : decode cL_law 665 = .ok (.iadd, 1) := by decide +kernel
theorem dL_law_666 : decode cL_law 666 = .ok (.iaload, 1) := by decide +kernel
theorem dL_law_667 : decode cL_law 667 = .ok (.invokevirtual 94, 3) := by decide +kernel
theorem dL_law_670 : decode cL_law 670 = .ok (.aload_n 2, 1) := by decide +kernel
theorem dL_law_671 : decode cL_law 671 = .ok (.aload_n 0, 1) := by decide +kernel
theorem dL_law_672 : decode cL_law 672 = .ok (.iload_n 3, 1) := by decide +kernel
theorem dL_law_673 : decode cL_law 673 = .ok (.iconst 1, 1) := by decide +kernel
theorem dL_law_674 : decode cL_law 674 = .ok (.iadd, 1) := by decide +kernel
theorem dL_law_675 : decode cL_law 675 = .ok (.iaload, 1) := by decide +kernel
theorem dL_law_676 : decode cL_law 676 = .ok (.aload_n 0, 1) := by decide +kernel
theorem dL_law_677 : decode cL_law 677 = .ok (.iload_n 3, 1) := by decide +kernel
theorem dL_law_678 : decode cL_law 678 = .ok (.iconst 2, 1) := by decide +kernel
theorem dL_law_679 : decode cL_law 679 = .ok (.iadd, 1) := by decide +kernel
theorem dL_law_680 : decode cL_law 680 = .ok (.iaload, 1) := by decide +kernel
theorem dL_law_681 : decode cL_law 681 = .ok (.aload_n 0, 1) := by decide +kernel
theorem dL_law_682 : decode cL_law 682 = .ok (.iload_n 3, 1) := by decide +kernel
theorem dL_law_683 : decode cL_law 683 = .ok (.iconst 3, 1) := by decide +kernel
theorem dL_law_684 : decode cL_law 684 = .ok (.iadd, 1) := by decide +kernel
theorem dL_law_685 : decode cL_law 685 = .ok (.iaload, 1) := by decide +kernel
theorem dL_law_686 : decode cL_law 686 = .ok (.invokevirtual 97, 3) := by decide +kernel
theorem dL_law_689 : decode cL_law 689 = .ok (.if_icmp .eq 68, 3) := by decide +kernel
theorem dL_law_692 : decode cL_law 692 = .ok (.iconst 0, 1) := by decide +kernel
theorem dL_law_693 : decode cL_law 693 = .ok (.ireturn, 1) := by decide +kernel
theorem dL_law_694 : decode cL_law 694 = .ok (.aload_n 1, 1) := by decide +kernel
theorem dL_law_695 : decode cL_law 695 = .ok (.invokevirtual 98, 3) := by decide +kernel
theorem dL_law_698 : decode cL_law 698 = .ok (.aload_n 2, 1) := by decide +kernel
theorem dL_law_699 : decode cL_law 699 = .ok (.invokevirtual 101, 3) := by decide +kernel
theorem dL_law_702 : decode cL_law 702 = .ok (.if_icmp .eq 55, 3) := by decide +kernel
theorem dL_law_705 : decode cL_law 705 = .ok (.iconst 0, 1) := by decide +kernel
theorem dL_law_706 : decode cL_law 706 = .ok (.ireturn, 1) := by decide +kernel
theorem dL_law_707 : decode cL_law 707 = .ok (.aload_n 1, 1) := by decide +kernel
theorem dL_law_708 : decode cL_law 708 = .ok (.invokevirtual 102, 3) := by decide +kernel
theorem dL_law_711 : decode cL_law 711 = .ok (.aload_n 2, 1) := by decide +kernel
theorem dL_law_712 : decode cL_law 712 = .ok (.invokevirtual 105, 3) := by decide +kernel
theorem dL_law_715 : decode cL_law 715 = .ok (.if_icmp .eq 42, 3) := by decide +kernel
theorem dL_law_718 : decode cL_law 718 = .ok (.iconst 0, 1) := by decide +kernel
theorem dL_law_719 : decode cL_law 719 = .ok (.ireturn, 1) := by decide +kernel
theorem dL_law_720 : decode cL_law 720 = .ok (.aload_n 1, 1) := by decide +kernel
theorem dL_law_721 : decode cL_law 721 = .ok (.aload_n 0, 1) := by decide +kernel
theorem dL_law_722 : decode cL_law 722 = .ok (.iload_n 3, 1) := by decide +kernel
theorem dL_law_723 : decode cL_law 723 = .ok (.iconst 1, 1) := by decide +kernel
theorem dL_law_724 : decode cL_law 724 = .ok (.iadd, 1) := by decide +kernel
theorem dL_law_725 : decode cL_law 725 = .ok (.iaload, 1) := by decide +kernel
theorem dL_law_726 : decode cL_law 726 = .ok (.invokevirtual 106, 3) := by decide +kernel
theorem dL_law_729 : decode cL_law 729 = .ok (.aload_n 2, 1) := by decide +kernel
theorem dL_law_730 : decode cL_law 730 = .ok (.aload_n 0, 1) := by decide +kernel
theorem dL_law_731 : decode cL_law 731 = .ok (.iload_n 3, 1) := by decide +kernel
theorem dL_law_732 : decode cL_law 732 = .ok (.iconst 1, 1) := by decide +kernel
theorem dL_law_733 : decode cL_law 733 = .ok (.iadd, 1) := by decide +kernel
theorem dL_law_734 : decode cL_law 734 = .ok (.iaload, 1) := by decide +kernel
theorem dL_law_735 : decode cL_law 735 = .ok (.invokevirtual 109, 3) := by decide +kernel
theorem dL_law_738 : decode cL_law 738 = .ok (.if_icmp .eq 19, 3) := by decide +kernel
theorem dL_law_741 : decode cL_law 741 = .ok (.iconst 0, 1) := by decide +kernel
theorem dL_law_742 : decode cL_law 742 = .ok (.ireturn, 1) := by decide +kernel
theorem dL_law_743 : decode cL_law 743 = .ok (.aload_n 1, 1) := by decide +kernel
theorem dL_law_744 : decode cL_law 744 = .ok (.invokevirtual 110, 3) := by decide +kernel
theorem dL_law_747 : decode cL_law 747 = .ok (.aload_n 2, 1) := by decide +kernel
theorem dL_law_748 : decode cL_law 748 = .ok (.invokevirtual 114, 3) := by decide +kernel
theorem dL_law_751 : decode cL_law 751 = .ok (.lcmp, 1) := by decide +kernel
theorem dL_law_752 : decode cL_law 752 = .ok (.ifCond .eq 5, 3) := by decide +kernel
theorem dL_law_755 : decode cL_law 755 = .ok (.iconst 0, 1) := by decide +kernel
theorem dL_law_756 : decode cL_law 756 = .ok (.ireturn, 1) := by decide +kernel
theorem dL_law_757 : decode cL_law 757 = .ok (.iinc 3 5, 3) := by decide +kernel
theorem dL_law_760 : decode cL_law 760 = .ok (.goto (-742), 3) := by decide +kernel
theorem dL_law_763 : decode cL_law 763 = .ok (.iconst 1, 1) := by decide +kernel
theorem dL_law_764 : decode cL_law 764 = .ok (.ireturn, 1) := by decide +kernel
