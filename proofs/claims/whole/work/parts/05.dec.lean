theorem dX6_read_100 : decode cX6_read 100 = .ok (.iconst 0, 1) := by decide +kernel
theorem dX6_read_101 : decode cX6_read 101 = .ok (.putfield 66, 3) := by decide +kernel
theorem dX6_read_104 : decode cX6_read 104 = .ok (.iload_n 1, 1) := by decide +kernel
theorem dX6_read_105 : decode cX6_read 105 = .ok (.ireturn, 1) := by decide +kernel
theorem dX6_fault_0 : decode cX6_fault 0 = .ok (.aload_n 0, 1) := by decide +kernel
theorem dX6_fault_1 : decode cX6_fault 1 = .ok (.invokevirtual 76, 3) := by decide +kernel
theorem dX6_fault_4 : decode cX6_fault 4 = .ok (.ireturn, 1) := by decide +kernel
theorem dX6_cellsAt_0 : decode cX6_cellsAt 0 = .ok (.iconst 0, 1) := by decide +kernel
theorem dX6_cellsAt_1 : decode cX6_cellsAt 1 = .ok (.istore_n 2, 1) := by decide +kernel
theorem dX6_cellsAt_2 : decode cX6_cellsAt 2 = .ok (.iconst 0, 1) := by decide +kernel
theorem dX6_cellsAt_3 : decode cX6_cellsAt 3 = .ok (.istore_n 3, 1) := by decide +kernel
theorem dX6_cellsAt_4 : decode cX6_cellsAt 4 = .ok (.iload_n 3, 1) := by decide +kernel
theorem dX6_cellsAt_5 : decode cX6_cellsAt 5 = .ok (.bipush 6, 2) := by decide +kernel
theorem dX6_cellsAt_7 : decode cX6_cellsAt 7 = .ok (.if_icmp .ge 23, 3) := by decide +kernel
theorem dX6_cellsAt_10 : decode cX6_cellsAt 10 = .ok (.iload_n 2, 1) := by decide +kernel
theorem dX6_cellsAt_11 : decode cX6_cellsAt 11 = .ok (.aload_n 0, 1) := by decide +kernel
theorem dX6_cellsAt_12 : decode cX6_cellsAt 12 = .ok (.iload_n 1, 1) := by decide +kernel
theorem dX6_cellsAt_13 : decode cX6_cellsAt 13 = .ok (.iload_n 3, 1) := by decide +kernel
theorem dX6_cellsAt_14 : decode cX6_cellsAt 14 = .ok (.iadd, 1) := by decide +kernel
theorem dX6_cellsAt_15 : decode cX6_cellsAt 15 = .ok (.invokevirtual 59, 3) := by decide +kernel
theorem dX6_cellsAt_18 : decode cX6_cellsAt 18 = .ok (.iconst 3, 1) := by decide +kernel
theorem dX6_cellsAt_19 : decode cX6_cellsAt 19 = .ok (.iload_n 3, 1) := by decide +kernel
theorem dX6_cellsAt_20 : decode cX6_cellsAt 20 = .ok (.imul, 1) := by decide +kernel
theorem dX6_cellsAt_21 : decode cX6_cellsAt 21 = .ok (.ishl, 1) := by decide +kernel
theorem dX6_cellsAt_22 : decode cX6_cellsAt 22 = .ok (.ior, 1) := by decide +kernel
theorem dX6_cellsAt_23 : decode cX6_cellsAt 23 = .ok (.istore_n 2, 1) := by decide +kernel
theorem dX6_cellsAt_24 : decode cX6_cellsAt 24 = .ok (.iinc 3 1, 3) := by decide +kernel
theorem dX6_cellsAt_27 : decode cX6_cellsAt 27 = .ok (.goto (-23), 3) := by decide +kernel
theorem dX6_cellsAt_30 : decode cX6_cellsAt 30 = .ok (.iload_n 2, 1) := by decide +kernel
theorem dX6_cellsAt_31 : decode cX6_cellsAt 31 = .ok (.ireturn, 1) := by decide +kernel
theorem dX6_tray_0 : decode cX6_tray 0 = .ok (.aload_n 0, 1) := by decide +kernel
theorem dX6_tray_1 : decode cX6_tray 1 = .ok (.invokevirtual 76, 3) := by decide +kernel
theorem dX6_tray_4 : decode cX6_tray 4 = .ok (.pop, 1) := by decide +kernel
theorem dX6_tray_5 : decode cX6_tray 5 = .ok (.aload_n 0, 1) := by decide +kernel
theorem dX6_tray_6 : decode cX6_tray 6 = .ok (.getfield 66, 3) := by decide +kernel
theorem dX6_tray_9 : decode cX6_tray 9 = .ok (.ifCond .ne 6, 3) := by decide +kernel
theorem dX6_tray_12 : decode cX6_tray 12 = .ok (.bipush (-103), 2) := by decide +kernel
theorem dX6_tray_14 : decode cX6_tray 14 = .ok (.ireturn, 1) := by decide +kernel
theorem dX6_tray_15 : decode cX6_tray 15 = .ok (.aload_n 0, 1) := by decide +kernel
theorem dX6_tray_16 : decode cX6_tray 16 = .ok (.aload_n 0, 1) := by decide +kernel
theorem dX6_tray_17 : decode cX6_tray 17 = .ok (.iconst 0, 1) := by decide +kernel
theorem dX6_tray_18 : decode cX6_tray 18 = .ok (.invokevirtual 80, 3) := by decide +kernel
theorem dX6_tray_21 : decode cX6_tray 21 = .ok (.putfield 83, 3) := by decide +kernel
theorem dX6_tray_24 : decode cX6_tray 24 = .ok (.aload_n 0, 1) := by decide +kernel
theorem dX6_tray_25 : decode cX6_tray 25 = .ok (.aload_n 0, 1) := by decide +kernel
theorem dX6_tray_26 : decode cX6_tray 26 = .ok (.bipush 13, 2) := by decide +kernel
theorem dX6_tray_28 : decode cX6_tray 28 = .ok (.invokevirtual 80, 3) := by decide +kernel
theorem dX6_tray_31 : decode cX6_tray 31 = .ok (.putfield 86, 3) := by decide +kernel
theorem dX6_tray_34 : decode cX6_tray 34 = .ok (.iconst 0, 1) := by decide +kernel
theorem dX6_tray_35 : decode cX6_tray 35 = .ok (.istore_n 1, 1) := by decide +kernel
theorem dX6_tray_36 : decode cX6_tray 36 = .ok (.iload_n 1, 1) := by decide +kernel
theorem dX6_tray_37 : decode cX6_tray 37 = .ok (.iconst 5, 1) := by decide +kernel
theorem dX6_tray_38 : decode cX6_tray 38 = .ok (.if_icmp .ge 27, 3) := by decide +kernel
theorem dX6_tray_41 : decode cX6_tray 41 = .ok (.aload_n 0, 1) := by decide +kernel
theorem dX6_tray_42 : decode cX6_tray 42 = .ok (.getfield 7, 3) := by decide +kernel
theorem dX6_tray_45 : decode cX6_tray 45 = .ok (.iload_n 1, 1) := by decide +kernel
theorem dX6_tray_46 : decode cX6_tray 46 = .ok (.aload_n 0, 1) := by decide +kernel
theorem dX6_tray_47 : decode cX6_tray 47 = .ok (.getfield 22, 3) := by decide +kernel
theorem dX6_tray_50 : decode cX6_tray 50 = .ok (.bipush 7, 2) := by decide +kernel
theorem dX6_tray_52 : decode cX6_tray 52 = .ok (.iload_n 1, 1) := by decide +kernel
theorem dX6_tray_53 : decode cX6_tray 53 = .ok (.iadd, 1) := by decide +kernel
theorem dX6_tray_54 : decode cX6_tray 54 = .ok (.baload, 1) := by decide +kernel
theorem dX6_tray_55 : decode cX6_tray 55 = .ok (.invokestatic 73, 3) := by decide +kernel
theorem dX6_tray_58 : decode cX6_tray 58 = .ok (.iastore, 1) := by decide +kernel
theorem dX6_tray_59 : decode cX6_tray 59 = .ok (.iinc 1 1, 3) := by decide +kernel
theorem dX6_tray_62 : decode cX6_tray 62 = .ok (.goto (-26), 3) := by decide +kernel
theorem dX6_tray_65 : decode cX6_tray 65 = .ok (.aload_n 0, 1) := by decide +kernel
theorem dX6_tray_66 : decode cX6_tray 66 = .ok (.iconst 0, 1) := by decide +kernel
theorem dX6_tray_67 : decode cX6_tray 67 = .ok (.putfield 89, 3) := by decide +kernel
theorem dX6_tray_70 : decode cX6_tray 70 = .ok (.aload_n 0, 1) := by decide +kernel
theorem dX6_tray_71 : decode cX6_tray 71 = .ok (.iconst 0, 1) := by decide +kernel
theorem dX6_tray_72 : decode cX6_tray 72 = .ok (.putfield 92, 3) := by decide +kernel
theorem dX6_tray_75 : decode cX6_tray 75 = .ok (.aload_n 0, 1) := by decide +kernel
theorem dX6_tray_76 : decode cX6_tray 76 = .ok (.dup, 1) := by decide +kernel
theorem dX6_tray_77 : decode cX6_tray 77 = .ok (.getfield 95, 3) := by decide +kernel
theorem dX6_tray_80 : decode cX6_tray 80 = .ok (.iconst 1, 1) := by decide +kernel
theorem dX6_tray_81 : decode cX6_tray 81 = .ok (.iadd, 1) := by decide +kernel
theorem dX6_tray_82 : decode cX6_tray 82 = .ok (.putfield 95, 3) := by decide +kernel
theorem dX6_tray_85 : decode cX6_tray 85 = .ok (.aload_n 0, 1) := by decide +kernel
theorem dX6_tray_86 : decode cX6_tray 86 = .ok (.iconst 0, 1) := by decide +kernel
theorem dX6_tray_87 : decode cX6_tray 87 = .ok (.putfield 98, 3) := by decide +kernel
theorem dX6_tray_90 : decode cX6_tray 90 = .ok (.aload_n 0, 1) := by decide +kernel
theorem dX6_tray_91 : decode cX6_tray 91 = .ok (.iconst 0, 1) := by decide +kernel
theorem dX6_tray_92 : decode cX6_tray 92 = .ok (.putfield 51, 3) := by decide +kernel
theorem dX6_tray_95 : decode cX6_tray 95 = .ok (.aload_n 0, 1) := by decide +kernel
theorem dX6_tray_96 : decode cX6_tray 96 = .ok (.getfield 83, 3) := by decide +kernel
theorem dX6_tray_99 : decode cX6_tray 99 = .ok (.iconst 5, 1) := by decide +kernel
theorem dX6_tray_100 : decode cX6_tray 100 = .ok (.invokestatic 101, 3) := by decide +kernel
theorem dX6_tray_103 : decode cX6_tray 103 = .ok (.ireturn, 1) := by decide +kernel
theorem dX6_isTile_0 : decode cX6_isTile 0 = .ok (.aload_n 0, 1) := by decide +kernel
theorem dX6_isTile_1 : decode cX6_isTile 1 = .ok (.getfield 95, 3) := by decide +kernel
theorem dX6_isTile_4 : decode cX6_isTile 4 = .ok (.ifCond .le 16, 3) := by decide +kernel
theorem dX6_isTile_7 : decode cX6_isTile 7 = .ok (.iload_n 1, 1) := by decide +kernel
theorem dX6_isTile_8 : decode cX6_isTile 8 = .ok (.iconst 0, 1) := by decide +kernel
theorem dX6_isTile_9 : decode cX6_isTile 9 = .ok (.iconst 4, 1) := by decide +kernel
theorem dX6_isTile_10 : decode cX6_isTile 10 = .ok (.invokestatic 47, 3) := by decide +kernel
theorem dX6_isTile_13 : decode cX6_isTile 13 = .ok (.ifCond .eq 7, 3) := by decide +kernel
theorem dX6_isTile_16 : decode cX6_isTile 16 = .ok (.iconst 1, 1) := by decide +kernel
theorem dX6_isTile_17 : decode cX6_isTile 17 = .ok (.goto 4, 3) := by decide +kernel
theorem dX6_isTile_20 : decode cX6_isTile 20 = .ok (.iconst 0, 1) := by decide +kernel
theorem dX6_isTile_21 : decode cX6_isTile 21 = .ok (.ireturn, 1) := by decide +kernel
theorem dX6_isCell_0 : decode cX6_isCell 0 = .ok (.aload_n 0, 1) := by decide +kernel
theorem dX6_isCell_1 : decode cX6_isCell 1 = .ok (.getfield 95, 3) := by decide +kernel
theorem dX6_isCell_4 : decode cX6_isCell 4 = .ok (.ifCond .le 16, 3) := by decide +kernel
theorem dX6_isCell_7 : decode cX6_isCell 7 = .ok (.iload_n 1, 1) := by decide +kernel
theorem dX6_isCell_8 : decode cX6_isCell 8 = .ok (.iconst 0, 1) := by decide +kernel
theorem dX6_isCell_9 : decode cX6_isCell 9 = .ok (.iconst 5, 1) := by decide +kernel
theorem dX6_isCell_10 : decode cX6_isCell 10 = .ok (.invokestatic 47, 3) := by decide +kernel
theorem dX6_isCell_13 : decode cX6_isCell 13 = .ok (.ifCond .eq 7, 3) := by decide +kernel
theorem dX6_isCell_16 : decode cX6_isCell 16 = .ok (.iconst 1, 1) := by decide +kernel
theorem dX6_isCell_17 : decode cX6_isCell 17 = .ok (.goto 4, 3) := by decide +kernel
theorem dX6_isCell_20 : decode cX6_isCell 20 = .ok (.iconst 0, 1) := by decide +kernel
theorem dX6_isCell_21 : decode cX6_isCell 21 = .ok (.ireturn, 1) := by decide +kernel
theorem dX6_isAt_0 : decode cX6_isAt 0 = .ok (.iload_n 0, 1) := by decide +kernel
theorem dX6_isAt_1 : decode cX6_isAt 1 = .ok (.iconst 3, 1) := by decide +kernel
theorem dX6_isAt_2 : decode cX6_isAt 2 = .ok (.iload_n 1, 1) := by decide +kernel
theorem dX6_isAt_3 : decode cX6_isAt 3 = .ok (.imul, 1) := by decide +kernel
theorem dX6_isAt_4 : decode cX6_isAt 4 = .ok (.ishr, 1) := by decide +kernel
theorem dX6_isAt_5 : decode cX6_isAt 5 = .ok (.bipush 7, 2) := by decide +kernel
theorem dX6_isAt_7 : decode cX6_isAt 7 = .ok (.iand, 1) := by decide +kernel
theorem dX6_isAt_8 : decode cX6_isAt 8 = .ok (.ireturn, 1) := by decide +kernel
theorem dX6_whereIs_0 : decode cX6_whereIs 0 = .ok (.iconst 0, 1) := by decide +kernel
theorem dX6_whereIs_1 : decode cX6_whereIs 1 = .ok (.istore_n 2, 1) := by decide +kernel
theorem dX6_whereIs_2 : decode cX6_whereIs 2 = .ok (.iload_n 0, 1) := by decide +kernel
theorem dX6_whereIs_3 : decode cX6_whereIs 3 = .ok (.iload_n 2, 1) := by decide +kernel
theorem dX6_whereIs_4 : decode cX6_whereIs 4 = .ok (.invokestatic 105, 3) := by decide +kernel
theorem dX6_whereIs_7 : decode cX6_whereIs 7 = .ok (.iload_n 1, 1) := by decide +kernel
theorem dX6_whereIs_8 : decode cX6_whereIs 8 = .ok (.if_icmp .eq 9, 3) := by decide +kernel
theorem dX6_whereIs_11 : decode cX6_whereIs 11 = .ok (.iinc 2 1, 3) := by decide +kernel
theorem dX6_whereIs_14 : decode cX6_whereIs 14 = .ok (.goto (-12), 3) := by decide +kernel
theorem dX6_whereIs_17 : decode cX6_whereIs 17 = .ok (.iload_n 2, 1) := by decide +kernel
theorem dX6_whereIs_18 : decode cX6_whereIs 18 = .ok (.ireturn, 1) := by decide +kernel
theorem dX6_exchanged_0 : decode cX6_exchanged 0 = .ok (.iload_n 0, 1) := by decide +kernel
theorem dX6_exchanged_1 : decode cX6_exchanged 1 = .ok (.iload_n 1, 1) := by decide +kernel
theorem dX6_exchanged_2 : decode cX6_exchanged 2 = .ok (.invokestatic 105, 3) := by decide +kernel
theorem dX6_exchanged_5 : decode cX6_exchanged 5 = .ok (.iload_n 0, 1) := by decide +kernel
theorem dX6_exchanged_6 : decode cX6_exchanged 6 = .ok (.iload_n 2, 1) := by decide +kernel
theorem dX6_exchanged_7 : decode cX6_exchanged 7 = .ok (.invokestatic 105, 3) := by decide +kernel
theorem dX6_exchanged_10 : decode cX6_exchanged 10 = .ok (.ixor, 1) := by decide +kernel
theorem dX6_exchanged_11 : decode cX6_exchanged 11 = .ok (.istore_n 3, 1) := by decide +kernel
theorem dX6_exchanged_12 : decode cX6_exchanged 12 = .ok (.iload_n 0, 1) := by decide +kernel
theorem dX6_exchanged_13 : decode cX6_exchanged 13 = .ok (.iload_n 3, 1) := by decide +kernel
theorem dX6_exchanged_14 : decode cX6_exchanged 14 = .ok (.iconst 3, 1) := by decide +kernel
theorem dX6_exchanged_15 : decode cX6_exchanged 15 = .ok (.iload_n 1, 1) := by decide +kernel
theorem dX6_exchanged_16 : decode cX6_exchanged 16 = .ok (.imul, 1) := by decide +kernel
theorem dX6_exchanged_17 : decode cX6_exchanged 17 = .ok (.ishl, 1) := by decide +kernel
theorem dX6_exchanged_18 : decode cX6_exchanged 18 = .ok (.ixor, 1) := by decide +kernel
theorem dX6_exchanged_19 : decode cX6_exchanged 19 = .ok (.iload_n 3, 1) := by decide +kernel
theorem dX6_exchanged_20 : decode cX6_exchanged 20 = .ok (.iconst 3, 1) := by decide +kernel
theorem dX6_exchanged_21 : decode cX6_exchanged 21 = .ok (.iload_n 2, 1) := by decide +kernel
theorem dX6_exchanged_22 : decode cX6_exchanged 22 = .ok (.imul, 1) := by decide +kernel
theorem dX6_exchanged_23 : decode cX6_exchanged 23 = .ok (.ishl, 1) := by decide +kernel
theorem dX6_exchanged_24 : decode cX6_exchanged 24 = .ok (.ixor, 1) := by decide +kernel
theorem dX6_exchanged_25 : decode cX6_exchanged 25 = .ok (.ireturn, 1) := by decide +kernel
theorem dX6_sameRow_0 : decode cX6_sameRow 0 = .ok (.iload_n 0, 1) := by decide +kernel
theorem dX6_sameRow_1 : decode cX6_sameRow 1 = .ok (.iconst 3, 1) := by decide +kernel
theorem dX6_sameRow_2 : decode cX6_sameRow 2 = .ok (.idiv, 1) := by decide +kernel
theorem dX6_sameRow_3 : decode cX6_sameRow 3 = .ok (.iload_n 1, 1) := by decide +kernel
theorem dX6_sameRow_4 : decode cX6_sameRow 4 = .ok (.iconst 3, 1) := by decide +kernel
theorem dX6_sameRow_5 : decode cX6_sameRow 5 = .ok (.idiv, 1) := by decide +kernel
theorem dX6_sameRow_6 : decode cX6_sameRow 6 = .ok (.if_icmp .ne 7, 3) := by decide +kernel
theorem dX6_sameRow_9 : decode cX6_sameRow 9 = .ok (.iconst 1, 1) := by decide +kernel
theorem dX6_sameRow_10 : decode cX6_sameRow 10 = .ok (.goto 4, 3) := by decide +kernel
theorem dX6_sameRow_13 : decode cX6_sameRow 13 = .ok (.iconst 0, 1) := by decide +kernel
theorem dX6_sameRow_14 : decode cX6_sameRow 14 = .ok (.ireturn, 1) := by decide +kernel
theorem dX6_areNext_0 : decode cX6_areNext 0 = .ok (.iload_n 0, 1) := by decide +kernel
theorem dX6_areNext_1 : decode cX6_areNext 1 = .ok (.iload_n 1, 1) := by decide +kernel
theorem dX6_areNext_2 : decode cX6_areNext 2 = .ok (.if_icmp .le 9, 3) := by decide +kernel
theorem dX6_areNext_5 : decode cX6_areNext 5 = .ok (.iload_n 0, 1) := by decide +kernel
theorem dX6_areNext_6 : decode cX6_areNext 6 = .ok (.iload_n 1, 1) := by decide +kernel
theorem dX6_areNext_7 : decode cX6_areNext 7 = .ok (.isub, 1) := by decide +kernel
theorem dX6_areNext_8 : decode cX6_areNext 8 = .ok (.goto 6, 3) := by decide +kernel
theorem dX6_areNext_11 : decode cX6_areNext 11 = .ok (.iload_n 1, 1) := by decide +kernel
theorem dX6_areNext_12 : decode cX6_areNext 12 = .ok (.iload_n 0, 1) := by decide +kernel
theorem dX6_areNext_13 : decode cX6_areNext 13 = .ok (.isub, 1) := by decide +kernel
theorem dX6_areNext_14 : decode cX6_areNext 14 = .ok (.istore_n 2, 1) := by decide +kernel
theorem dX6_areNext_15 : decode cX6_areNext 15 = .ok (.iload_n 2, 1) := by decide +kernel
theorem dX6_areNext_16 : decode cX6_areNext 16 = .ok (.iconst 3, 1) := by decide +kernel
theorem dX6_areNext_17 : decode cX6_areNext 17 = .ok (.if_icmp .eq 16, 3) := by decide +kernel
theorem dX6_areNext_20 : decode cX6_areNext 20 = .ok (.iload_n 2, 1) := by decide +kernel
theorem dX6_areNext_21 : decode cX6_areNext 21 = .ok (.iconst 1, 1) := by decide +kernel
theorem dX6_areNext_22 : decode cX6_areNext 22 = .ok (.if_icmp .ne 15, 3) := by decide +kernel
theorem dX6_areNext_25 : decode cX6_areNext 25 = .ok (.iload_n 0, 1) := by decide +kernel
theorem dX6_areNext_26 : decode cX6_areNext 26 = .ok (.iload_n 1, 1) := by decide +kernel
theorem dX6_areNext_27 : decode cX6_areNext 27 = .ok (.invokestatic 108, 3) := by decide +kernel
theorem dX6_areNext_30 : decode cX6_areNext 30 = .ok (.ifCond .eq 7, 3) := by decide +kernel
theorem dX6_areNext_33 : decode cX6_areNext 33 = .ok (.iconst 1, 1) := by decide +kernel
theorem dX6_areNext_34 : decode cX6_areNext 34 = .ok (.goto 4, 3) := by decide +kernel
theorem dX6_areNext_37 : decode cX6_areNext 37 = .ok (.iconst 0, 1) := by decide +kernel
theorem dX6_areNext_38 : decode cX6_areNext 38 = .ok (.ireturn, 1) := by decide +kernel
theorem dX6_costBy_0 : decode cX6_costBy 0 = .ok (.iload_n 0, 1) := by decide +kernel
theorem dX6_costBy_1 : decode cX6_costBy 1 = .ok (.tableswitch 47 1 4 #[31, 33, 35, 45], 31) := by decide +kernel
theorem dX6_costBy_32 : decode cX6_costBy 32 = .ok (.iconst 2, 1) := by decide +kernel
theorem dX6_costBy_33 : decode cX6_costBy 33 = .ok (.ireturn, 1) := by decide +kernel
theorem dX6_costBy_34 : decode cX6_costBy 34 = .ok (.iconst 0, 1) := by decide +kernel
theorem dX6_costBy_35 : decode cX6_costBy 35 = .ok (.ireturn, 1) := by decide +kernel
theorem dX6_costBy_36 : decode cX6_costBy 36 = .ok (.iload_n 1, 1) := by decide +kernel
theorem dX6_costBy_37 : decode cX6_costBy 37 = .ok (.ifCond .ne 7, 3) := by decide +kernel
theorem dX6_costBy_40 : decode cX6_costBy 40 = .ok (.iconst 1, 1) := by decide +kernel
theorem dX6_costBy_41 : decode cX6_costBy 41 = .ok (.goto 4, 3) := by decide +kernel
theorem dX6_costBy_44 : decode cX6_costBy 44 = .ok (.iconst 0, 1) := by decide +kernel
theorem dX6_costBy_45 : decode cX6_costBy 45 = .ok (.ireturn, 1) := by decide +kernel
theorem dX6_costBy_46 : decode cX6_costBy 46 = .ok (.iconst 3, 1) := by decide +kernel
theorem dX6_costBy_47 : decode cX6_costBy 47 = .ok (.ireturn, 1) := by decide +kernel
theorem dX6_costBy_48 : decode cX6_costBy 48 = .ok (.iconst 1, 1) := by decide +kernel
theorem dX6_costBy_49 : decode cX6_costBy 49 = .ok (.ireturn, 1) := by decide +kernel
theorem dX6_costIn_0 : decode cX6_costIn 0 = .ok (.iload_n 1, 1) := by decide +kernel
theorem dX6_costIn_1 : decode cX6_costIn 1 = .ok (.iconst 5, 1) := by decide +kernel
theorem dX6_costIn_2 : decode cX6_costIn 2 = .ok (.invokestatic 101, 3) := by decide +kernel
theorem dX6_costIn_5 : decode cX6_costIn 5 = .ok (.istore_n 3, 1) := by decide +kernel
theorem dX6_costIn_6 : decode cX6_costIn 6 = .ok (.iload_n 1, 1) := by decide +kernel
theorem dX6_costIn_7 : decode cX6_costIn 7 = .ok (.iload_n 2, 1) := by decide +kernel
theorem dX6_costIn_8 : decode cX6_costIn 8 = .ok (.invokestatic 101, 3) := by decide +kernel
theorem dX6_costIn_11 : decode cX6_costIn 11 = .ok (.istore 4, 2) := by decide +kernel
theorem dX6_costIn_13 : decode cX6_costIn 13 = .ok (.iload_n 3, 1) := by decide +kernel
theorem dX6_costIn_14 : decode cX6_costIn 14 = .ok (.iload 4, 2) := by decide +kernel
theorem dX6_costIn_16 : decode cX6_costIn 16 = .ok (.invokestatic 111, 3) := by decide +kernel
theorem dX6_costIn_19 : decode cX6_costIn 19 = .ok (.ifCond .eq 29, 3) := by decide +kernel
theorem dX6_costIn_22 : decode cX6_costIn 22 = .ok (.aload_n 0, 1) := by decide +kernel
theorem dX6_costIn_23 : decode cX6_costIn 23 = .ok (.getfield 7, 3) := by decide +kernel
theorem dX6_costIn_26 : decode cX6_costIn 26 = .ok (.iload_n 2, 1) := by decide +kernel
theorem dX6_costIn_27 : decode cX6_costIn 27 = .ok (.iaload, 1) := by decide +kernel
theorem dX6_costIn_28 : decode cX6_costIn 28 = .ok (.iload_n 3, 1) := by decide +kernel
theorem dX6_costIn_29 : decode cX6_costIn 29 = .ok (.iload 4, 2) := by decide +kernel
theorem dX6_costIn_31 : decode cX6_costIn 31 = .ok (.invokestatic 108, 3) := by decide +kernel
theorem dX6_costIn_34 : decode cX6_costIn 34 = .ok (.ifCond .eq 7, 3) := by decide +kernel
theorem dX6_costIn_37 : decode cX6_costIn 37 = .ok (.iconst 0, 1) := by decide +kernel
theorem dX6_costIn_38 : decode cX6_costIn 38 = .ok (.goto 4, 3) := by decide +kernel
theorem dX6_costIn_41 : decode cX6_costIn 41 = .ok (.iconst 1, 1) := by decide +kernel
theorem dX6_costIn_42 : decode cX6_costIn 42 = .ok (.invokestatic 114, 3) := by decide +kernel
theorem dX6_costIn_45 : decode cX6_costIn 45 = .ok (.goto 4, 3) := by decide +kernel
theorem dX6_costIn_48 : decode cX6_costIn 48 = .ok (.iconst 0, 1) := by decide +kernel
theorem dX6_costIn_49 : decode cX6_costIn 49 = .ok (.ireturn, 1) := by decide +kernel
theorem dX6_pushed_0 : decode cX6_pushed 0 = .ok (.iload_n 0, 1) := by decide +kernel
theorem dX6_pushed_1 : decode cX6_pushed 1 = .ok (.iload_n 0, 1) := by decide +kernel
theorem dX6_pushed_2 : decode cX6_pushed 2 = .ok (.iconst 5, 1) := by decide +kernel
theorem dX6_pushed_3 : decode cX6_pushed 3 = .ok (.invokestatic 101, 3) := by decide +kernel
theorem dX6_pushed_6 : decode cX6_pushed 6 = .ok (.iload_n 0, 1) := by decide +kernel
theorem dX6_pushed_7 : decode cX6_pushed 7 = .ok (.iload_n 1, 1) := by decide +kernel
theorem dX6_pushed_8 : decode cX6_pushed 8 = .ok (.invokestatic 101, 3) := by decide +kernel
theorem dX6_pushed_11 : decode cX6_pushed 11 = .ok (.invokestatic 117, 3) := by decide +kernel
theorem dX6_pushed_14 : decode cX6_pushed 14 = .ok (.ireturn, 1) := by decide +kernel
theorem dX6_mayBePushed_0 : decode cX6_mayBePushed 0 = .ok (.iconst 0, 1) := by decide +kernel
theorem dX6_mayBePushed_1 : decode cX6_mayBePushed 1 = .ok (.istore_n 2, 1) := by decide +kernel
theorem dX6_mayBePushed_2 : decode cX6_mayBePushed 2 = .ok (.iconst 0, 1) := by decide +kernel
theorem dX6_mayBePushed_3 : decode cX6_mayBePushed 3 = .ok (.istore_n 3, 1) := by decide +kernel
theorem dX6_mayBePushed_4 : decode cX6_mayBePushed 4 = .ok (.iload_n 3, 1) := by decide +kernel
theorem dX6_mayBePushed_5 : decode cX6_mayBePushed 5 = .ok (.iconst 5, 1) := by decide +kernel
theorem dX6_mayBePushed_6 : decode cX6_mayBePushed 6 = .ok (.if_icmp .ge 28, 3) := by decide +kernel
theorem dX6_mayBePushed_9 : decode cX6_mayBePushed 9 = .ok (.iload_n 2, 1) := by decide +kernel
theorem dX6_mayBePushed_10 : decode cX6_mayBePushed 10 = .ok (.aload_n 0, 1) := by decide +kernel
theorem dX6_mayBePushed_11 : decode cX6_mayBePushed 11 = .ok (.iload_n 1, 1) := by decide +kernel
theorem dX6_mayBePushed_12 : decode cX6_mayBePushed 12 = .ok (.iload_n 3, 1) := by decide +kernel
theorem dX6_mayBePushed_13 : decode cX6_mayBePushed 13 = .ok (.invokevirtual 121, 3) := by decide +kernel
theorem dX6_mayBePushed_16 : decode cX6_mayBePushed 16 = .ok (.ifCond .le 9, 3) := by decide +kernel
theorem dX6_mayBePushed_19 : decode cX6_mayBePushed 19 = .ok (.iconst 1, 1) := by decide +kernel
theorem dX6_mayBePushed_20 : decode cX6_mayBePushed 20 = .ok (.iload_n 3, 1) := by decide +kernel
theorem dX6_mayBePushed_21 : decode cX6_mayBePushed 21 = .ok (.ishl, 1) := by decide +kernel
theorem dX6_mayBePushed_22 : decode cX6_mayBePushed 22 = .ok (.goto 4, 3) := by decide +kernel
theorem dX6_mayBePushed_25 : decode cX6_mayBePushed 25 = .ok (.iconst 0, 1) := by decide +kernel
theorem dX6_mayBePushed_26 : decode cX6_mayBePushed 26 = .ok (.ior, 1) := by decide +kernel
theorem dX6_mayBePushed_27 : decode cX6_mayBePushed 27 = .ok (.istore_n 2, 1) := by decide +kernel
theorem dX6_mayBePushed_28 : decode cX6_mayBePushed 28 = .ok (.iinc 3 1, 3) := by decide +kernel
theorem dX6_mayBePushed_31 : decode cX6_mayBePushed 31 = .ok (.goto (-27), 3) := by decide +kernel
theorem dX6_mayBePushed_34 : decode cX6_mayBePushed 34 = .ok (.iload_n 2, 1) := by decide +kernel
theorem dX6_mayBePushed_35 : decode cX6_mayBePushed 35 = .ok (.ireturn, 1) := by decide +kernel
theorem dX6_tileNow_0 : decode cX6_tileNow 0 = .ok (.iload_n 2, 1) := by decide +kernel
theorem dX6_tileNow_1 : decode cX6_tileNow 1 = .ok (.tableswitch 102 0 5 #[39, 46, 55, 64, 90, 96], 39) := by decide +kernel
theorem dX6_tileNow_40 : decode cX6_tileNow 40 = .ok (.aload_n 0, 1) := by decide +kernel
theorem dX6_tileNow_41 : decode cX6_tileNow 41 = .ok (.getfield 7, 3) := by decide +kernel
theorem dX6_tileNow_44 : decode cX6_tileNow 44 = .ok (.iload_n 1, 1) := by decide +kernel
theorem dX6_tileNow_45 : decode cX6_tileNow 45 = .ok (.iaload, 1) := by decide +kernel
theorem dX6_tileNow_46 : decode cX6_tileNow 46 = .ok (.ireturn, 1) := by decide +kernel
theorem dX6_tileNow_47 : decode cX6_tileNow 47 = .ok (.aload_n 0, 1) := by decide +kernel
theorem dX6_tileNow_48 : decode cX6_tileNow 48 = .ok (.getfield 83, 3) := by decide +kernel
theorem dX6_tileNow_51 : decode cX6_tileNow 51 = .ok (.iload_n 1, 1) := by decide +kernel
theorem dX6_tileNow_52 : decode cX6_tileNow 52 = .ok (.invokestatic 101, 3) := by decide +kernel
theorem dX6_tileNow_55 : decode cX6_tileNow 55 = .ok (.ireturn, 1) := by decide +kernel
theorem dX6_tileNow_56 : decode cX6_tileNow 56 = .ok (.aload_n 0, 1) := by decide +kernel
theorem dX6_tileNow_57 : decode cX6_tileNow 57 = .ok (.getfield 86, 3) := by decide +kernel
theorem dX6_tileNow_60 : decode cX6_tileNow 60 = .ok (.iload_n 1, 1) := by decide +kernel
theorem dX6_tileNow_61 : decode cX6_tileNow 61 = .ok (.invokestatic 101, 3) := by decide +kernel
theorem dX6_tileNow_64 : decode cX6_tileNow 64 = .ok (.ireturn, 1) := by decide +kernel
theorem dX6_tileNow_65 : decode cX6_tileNow 65 = .ok (.aload_n 0, 1) := by decide +kernel
theorem dX6_tileNow_66 : decode cX6_tileNow 66 = .ok (.aload_n 0, 1) := by decide +kernel
theorem dX6_tileNow_67 : decode cX6_tileNow 67 = .ok (.getfield 83, 3) := by decide +kernel
theorem dX6_tileNow_70 : decode cX6_tileNow 70 = .ok (.iload_n 1, 1) := by decide +kernel
theorem dX6_tileNow_71 : decode cX6_tileNow 71 = .ok (.invokevirtual 121, 3) := by decide +kernel
theorem dX6_tileNow_74 : decode cX6_tileNow 74 = .ok (.ifCond .le 15, 3) := by decide +kernel
theorem dX6_tileNow_77 : decode cX6_tileNow 77 = .ok (.aload_n 0, 1) := by decide +kernel
theorem dX6_tileNow_78 : decode cX6_tileNow 78 = .ok (.aload_n 0, 1) := by decide +kernel
theorem dX6_tileNow_79 : decode cX6_tileNow 79 = .ok (.getfield 83, 3) := by decide +kernel
theorem dX6_tileNow_82 : decode cX6_tileNow 82 = .ok (.iload_n 1, 1) := by decide +kernel
theorem dX6_tileNow_83 : decode cX6_tileNow 83 = .ok (.invokevirtual 121, 3) := by decide +kernel
theorem dX6_tileNow_86 : decode cX6_tileNow 86 = .ok (.goto 4, 3) := by decide +kernel
theorem dX6_tileNow_89 : decode cX6_tileNow 89 = .ok (.iconst (-1), 1) := by decide +kernel
theorem dX6_tileNow_90 : decode cX6_tileNow 90 = .ok (.ireturn, 1) := by decide +kernel
theorem dX6_tileNow_91 : decode cX6_tileNow 91 = .ok (.aload_n 0, 1) := by decide +kernel
theorem dX6_tileNow_92 : decode cX6_tileNow 92 = .ok (.iload_n 1, 1) := by decide +kernel
theorem dX6_tileNow_93 : decode cX6_tileNow 93 = .ok (.invokevirtual 124, 3) := by decide +kernel
theorem dX6_tileNow_96 : decode cX6_tileNow 96 = .ok (.ireturn, 1) := by decide +kernel
theorem dX6_tileNow_97 : decode cX6_tileNow 97 = .ok (.aload_n 0, 1) := by decide +kernel
theorem dX6_tileNow_98 : decode cX6_tileNow 98 = .ok (.iload_n 1, 1) := by decide +kernel
theorem dX6_tileNow_99 : decode cX6_tileNow 99 = .ok (.invokevirtual 127, 3) := by decide +kernel
theorem dX6_tileNow_102 : decode cX6_tileNow 102 = .ok (.ireturn, 1) := by decide +kernel
theorem dX6_tileNow_103 : decode cX6_tileNow 103 = .ok (.aload_n 0, 1) := by decide +kernel
theorem dX6_tileNow_104 : decode cX6_tileNow 104 = .ok (.iload_n 1, 1) := by decide +kernel
theorem dX6_tileNow_105 : decode cX6_tileNow 105 = .ok (.aload_n 0, 1) := by decide +kernel
theorem dX6_tileNow_106 : decode cX6_tileNow 106 = .ok (.getfield 86, 3) := by decide +kernel
theorem dX6_tileNow_109 : decode cX6_tileNow 109 = .ok (.iload_n 1, 1) := by decide +kernel
theorem dX6_tileNow_110 : decode cX6_tileNow 110 = .ok (.invokestatic 101, 3) := by decide +kernel
theorem dX6_tileNow_113 : decode cX6_tileNow 113 = .ok (.invokevirtual 130, 3) := by decide +kernel
theorem dX6_tileNow_116 : decode cX6_tileNow 116 = .ok (.ireturn, 1) := by decide +kernel
theorem dX6_tile_0 : decode cX6_tile 0 = .ok (.aload_n 0, 1) := by decide +kernel
theorem dX6_tile_1 : decode cX6_tile 1 = .ok (.iload_n 1, 1) := by decide +kernel
theorem dX6_tile_2 : decode cX6_tile 2 = .ok (.invokevirtual 133, 3) := by decide +kernel
theorem dX6_tile_5 : decode cX6_tile 5 = .ok (.ifCond .ne 8, 3) := by decide +kernel
theorem dX6_tile_8 : decode cX6_tile 8 = .ok (.bipush (-101), 2) := by decide +kernel
theorem dX6_tile_10 : decode cX6_tile 10 = .ok (.goto 24, 3) := by decide +kernel
theorem dX6_tile_13 : decode cX6_tile 13 = .ok (.iload_n 2, 1) := by decide +kernel
theorem dX6_tile_14 : decode cX6_tile 14 = .ok (.iconst 0, 1) := by decide +kernel
theorem dX6_tile_15 : decode cX6_tile 15 = .ok (.bipush 6, 2) := by decide +kernel
theorem dX6_tile_17 : decode cX6_tile 17 = .ok (.invokestatic 47, 3) := by decide +kernel
theorem dX6_tile_20 : decode cX6_tile 20 = .ok (.ifCond .eq 12, 3) := by decide +kernel
theorem dX6_tile_23 : decode cX6_tile 23 = .ok (.aload_n 0, 1) := by decide +kernel
theorem dX6_tile_24 : decode cX6_tile 24 = .ok (.iload_n 1, 1) := by decide +kernel
theorem dX6_tile_25 : decode cX6_tile 25 = .ok (.iload_n 2, 1) := by decide +kernel
theorem dX6_tile_26 : decode cX6_tile 26 = .ok (.invokevirtual 137, 3) := by decide +kernel
theorem dX6_tile_29 : decode cX6_tile 29 = .ok (.goto 5, 3) := by decide +kernel
theorem dX6_tile_32 : decode cX6_tile 32 = .ok (.bipush (-102), 2) := by decide +kernel
theorem dX6_tile_34 : decode cX6_tile 34 = .ok (.ireturn, 1) := by decide +kernel
theorem dX6_as_0 : decode cX6_as 0 = .ok (.aload_n 0, 1) := by decide +kernel
theorem dX6_as_1 : decode cX6_as 1 = .ok (.iload_n 1, 1) := by decide +kernel
theorem dX6_as_2 : decode cX6_as 2 = .ok (.invokevirtual 133, 3) := by decide +kernel
theorem dX6_as_5 : decode cX6_as 5 = .ok (.ifCond .ne 6, 3) := by decide +kernel
theorem dX6_as_8 : decode cX6_as 8 = .ok (.bipush (-101), 2) := by decide +kernel
theorem dX6_as_10 : decode cX6_as 10 = .ok (.ireturn, 1) := by decide +kernel
theorem dX6_as_11 : decode cX6_as 11 = .ok (.iload_n 2, 1) := by decide +kernel
theorem dX6_as_12 : decode cX6_as 12 = .ok (.iconst 0, 1) := by decide +kernel
theorem dX6_as_13 : decode cX6_as 13 = .ok (.iconst 4, 1) := by decide +kernel
theorem dX6_as_14 : decode cX6_as 14 = .ok (.invokestatic 47, 3) := by decide +kernel
theorem dX6_as_17 : decode cX6_as 17 = .ok (.ifCond .ne 6, 3) := by decide +kernel
theorem dX6_as_20 : decode cX6_as 20 = .ok (.bipush (-102), 2) := by decide +kernel
theorem dX6_as_22 : decode cX6_as 22 = .ok (.ireturn, 1) := by decide +kernel
theorem dX6_as_23 : decode cX6_as 23 = .ok (.aload_n 0, 1) := by decide +kernel
theorem dX6_as_24 : decode cX6_as 24 = .ok (.getfield 7, 3) := by decide +kernel
theorem dX6_as_27 : decode cX6_as 27 = .ok (.iload_n 1, 1) := by decide +kernel
theorem dX6_as_28 : decode cX6_as 28 = .ok (.iaload, 1) := by decide +kernel
theorem dX6_as_29 : decode cX6_as 29 = .ok (.istore_n 3, 1) := by decide +kernel
theorem dX6_as_30 : decode cX6_as 30 = .ok (.iload_n 2, 1) := by decide +kernel
theorem dX6_as_31 : decode cX6_as 31 = .ok (.ifCond .eq 18, 3) := by decide +kernel
theorem dX6_as_34 : decode cX6_as 34 = .ok (.iload_n 3, 1) := by decide +kernel
theorem dX6_as_35 : decode cX6_as 35 = .ok (.iload_n 2, 1) := by decide +kernel
theorem dX6_as_36 : decode cX6_as 36 = .ok (.if_icmp .eq 13, 3) := by decide +kernel
theorem dX6_as_39 : decode cX6_as 39 = .ok (.iload_n 2, 1) := by decide +kernel
theorem dX6_as_40 : decode cX6_as 40 = .ok (.iconst 1, 1) := by decide +kernel
theorem dX6_as_41 : decode cX6_as 41 = .ok (.if_icmp .ne 12, 3) := by decide +kernel
theorem dX6_as_44 : decode cX6_as 44 = .ok (.iload_n 3, 1) := by decide +kernel
theorem dX6_as_45 : decode cX6_as 45 = .ok (.iconst 4, 1) := by decide +kernel
theorem dX6_as_46 : decode cX6_as 46 = .ok (.if_icmp .ne 7, 3) := by decide +kernel
theorem dX6_as_49 : decode cX6_as 49 = .ok (.iload_n 1, 1) := by decide +kernel
theorem dX6_as_50 : decode cX6_as 50 = .ok (.goto 4, 3) := by decide +kernel
theorem dX6_as_53 : decode cX6_as 53 = .ok (.iconst (-1), 1) := by decide +kernel
theorem dX6_as_54 : decode cX6_as 54 = .ok (.ireturn, 1) := by decide +kernel
theorem dX6_cellNow_0 : decode cX6_cellNow 0 = .ok (.iload_n 2, 1) := by decide +kernel
theorem dX6_cellNow_1 : decode cX6_cellNow 1 = .ok (.iconst 2, 1) := by decide +kernel
theorem dX6_cellNow_2 : decode cX6_cellNow 2 = .ok (.if_icmp .ne 24, 3) := by decide +kernel
theorem dX6_cellNow_5 : decode cX6_cellNow 5 = .ok (.iload_n 1, 1) := by decide +kernel
theorem dX6_cellNow_6 : decode cX6_cellNow 6 = .ok (.aload_n 0, 1) := by decide +kernel
theorem dX6_cellNow_7 : decode cX6_cellNow 7 = .ok (.getfield 83, 3) := by decide +kernel
theorem dX6_cellNow_10 : decode cX6_cellNow 10 = .ok (.iconst 5, 1) := by decide +kernel
theorem dX6_cellNow_11 : decode cX6_cellNow 11 = .ok (.invokestatic 101, 3) := by decide +kernel
theorem dX6_cellNow_14 : decode cX6_cellNow 14 = .ok (.invokestatic 111, 3) := by decide +kernel
theorem dX6_cellNow_17 : decode cX6_cellNow 17 = .ok (.ifCond .eq 7, 3) := by decide +kernel
theorem dX6_cellNow_20 : decode cX6_cellNow 20 = .ok (.iconst 1, 1) := by decide +kernel
theorem dX6_cellNow_21 : decode cX6_cellNow 21 = .ok (.goto 4, 3) := by decide +kernel
theorem dX6_cellNow_24 : decode cX6_cellNow 24 = .ok (.iconst 0, 1) := by decide +kernel
theorem dX6_cellNow_25 : decode cX6_cellNow 25 = .ok (.ireturn, 1) := by decide +kernel
theorem dX6_cellNow_26 : decode cX6_cellNow 26 = .ok (.iload_n 2, 1) := by decide +kernel
theorem dX6_cellNow_27 : decode cX6_cellNow 27 = .ok (.ifCond .ne 10, 3) := by decide +kernel
theorem dX6_cellNow_30 : decode cX6_cellNow 30 = .ok (.aload_n 0, 1) := by decide +kernel
theorem dX6_cellNow_31 : decode cX6_cellNow 31 = .ok (.getfield 83, 3) := by decide +kernel
theorem dX6_cellNow_34 : decode cX6_cellNow 34 = .ok (.goto 7, 3) := by decide +kernel
theorem dX6_cellNow_37 : decode cX6_cellNow 37 = .ok (.aload_n 0, 1) := by decide +kernel
theorem dX6_cellNow_38 : decode cX6_cellNow 38 = .ok (.getfield 86, 3) := by decide +kernel
theorem dX6_cellNow_41 : decode cX6_cellNow 41 = .ok (.iload_n 1, 1) := by decide +kernel
theorem dX6_cellNow_42 : decode cX6_cellNow 42 = .ok (.invokestatic 105, 3) := by decide +kernel
theorem dX6_cellNow_45 : decode cX6_cellNow 45 = .ok (.istore_n 3, 1) := by decide +kernel
theorem dX6_cellNow_46 : decode cX6_cellNow 46 = .ok (.iload_n 3, 1) := by decide +kernel
theorem dX6_cellNow_47 : decode cX6_cellNow 47 = .ok (.iconst 5, 1) := by decide +kernel
theorem dX6_cellNow_48 : decode cX6_cellNow 48 = .ok (.if_icmp .ne 7, 3) := by decide +kernel
theorem dX6_cellNow_51 : decode cX6_cellNow 51 = .ok (.iconst (-1), 1) := by decide +kernel
theorem dX6_cellNow_52 : decode cX6_cellNow 52 = .ok (.goto 4, 3) := by decide +kernel
theorem dX6_cellNow_55 : decode cX6_cellNow 55 = .ok (.iload_n 3, 1) := by decide +kernel
theorem dX6_cellNow_56 : decode cX6_cellNow 56 = .ok (.ireturn, 1) := by decide +kernel
theorem dX6_cell_0 : decode cX6_cell 0 = .ok (.aload_n 0, 1) := by decide +kernel
theorem dX6_cell_1 : decode cX6_cell 1 = .ok (.iload_n 1, 1) := by decide +kernel
theorem dX6_cell_2 : decode cX6_cell 2 = .ok (.invokevirtual 140, 3) := by decide +kernel
theorem dX6_cell_5 : decode cX6_cell 5 = .ok (.ifCond .ne 8, 3) := by decide +kernel
theorem dX6_cell_8 : decode cX6_cell 8 = .ok (.bipush (-101), 2) := by decide +kernel
theorem dX6_cell_10 : decode cX6_cell 10 = .ok (.goto 23, 3) := by decide +kernel
theorem dX6_cell_13 : decode cX6_cell 13 = .ok (.iload_n 2, 1) := by decide +kernel
theorem dX6_cell_14 : decode cX6_cell 14 = .ok (.iconst 0, 1) := by decide +kernel
theorem dX6_cell_15 : decode cX6_cell 15 = .ok (.iconst 2, 1) := by decide +kernel
theorem dX6_cell_16 : decode cX6_cell 16 = .ok (.invokestatic 47, 3) := by decide +kernel
theorem dX6_cell_19 : decode cX6_cell 19 = .ok (.ifCond .eq 12, 3) := by decide +kernel
theorem dX6_cell_22 : decode cX6_cell 22 = .ok (.aload_n 0, 1) := by decide +kernel
theorem dX6_cell_23 : decode cX6_cell 23 = .ok (.iload_n 1, 1) := by decide +kernel
theorem dX6_cell_24 : decode cX6_cell 24 = .ok (.iload_n 2, 1) := by decide +kernel
theorem dX6_cell_25 : decode cX6_cell 25 = .ok (.invokevirtual 143, 3) := by decide +kernel
theorem dX6_cell_28 : decode cX6_cell 28 = .ok (.goto 5, 3) := by decide +kernel
theorem dX6_cell_31 : decode cX6_cell 31 = .ok (.bipush (-102), 2) := by decide +kernel
theorem dX6_cell_33 : decode cX6_cell 33 = .ok (.ireturn, 1) := by decide +kernel
theorem dX6_push_0 : decode cX6_push 0 = .ok (.aload_n 0, 1) := by decide +kernel
theorem dX6_push_1 : decode cX6_push 1 = .ok (.iload_n 1, 1) := by decide +kernel
theorem dX6_push_2 : decode cX6_push 2 = .ok (.invokevirtual 133, 3) := by decide +kernel
theorem dX6_push_5 : decode cX6_push 5 = .ok (.ifCond .ne 6, 3) := by decide +kernel
theorem dX6_push_8 : decode cX6_push 8 = .ok (.bipush (-101), 2) := by decide +kernel
theorem dX6_push_10 : decode cX6_push 10 = .ok (.ireturn, 1) := by decide +kernel
theorem dX6_push_11 : decode cX6_push 11 = .ok (.aload_n 0, 1) := by decide +kernel
theorem dX6_push_12 : decode cX6_push 12 = .ok (.aload_n 0, 1) := by decide +kernel
theorem dX6_push_13 : decode cX6_push 13 = .ok (.getfield 83, 3) := by decide +kernel
theorem dX6_push_16 : decode cX6_push 16 = .ok (.iload_n 1, 1) := by decide +kernel
theorem dX6_push_17 : decode cX6_push 17 = .ok (.invokevirtual 121, 3) := by decide +kernel
theorem dX6_push_20 : decode cX6_push 20 = .ok (.istore_n 2, 1) := by decide +kernel
theorem dX6_push_21 : decode cX6_push 21 = .ok (.iload_n 2, 1) := by decide +kernel
theorem dX6_push_22 : decode cX6_push 22 = .ok (.ifCond .ne 6, 3) := by decide +kernel
theorem dX6_push_25 : decode cX6_push 25 = .ok (.bipush (-103), 2) := by decide +kernel
theorem dX6_push_27 : decode cX6_push 27 = .ok (.ireturn, 1) := by decide +kernel
theorem dX6_push_28 : decode cX6_push 28 = .ok (.aload_n 0, 1) := by decide +kernel
theorem dX6_push_29 : decode cX6_push 29 = .ok (.getfield 89, 3) := by decide +kernel
theorem dX6_push_32 : decode cX6_push 32 = .ok (.sipush 999, 3) := by decide +kernel
theorem dX6_push_35 : decode cX6_push 35 = .ok (.if_icmp .ne 6, 3) := by decide +kernel
theorem dX6_push_38 : decode cX6_push 38 = .ok (.bipush (-104), 2) := by decide +kernel
theorem dX6_push_40 : decode cX6_push 40 = .ok (.ireturn, 1) := by decide +kernel
theorem dX6_push_41 : decode cX6_push 41 = .ok (.aload_n 0, 1) := by decide +kernel
theorem dX6_push_42 : decode cX6_push 42 = .ok (.aload_n 0, 1) := by decide +kernel
theorem dX6_push_43 : decode cX6_push 43 = .ok (.getfield 83, 3) := by decide +kernel
theorem dX6_push_46 : decode cX6_push 46 = .ok (.iload_n 1, 1) := by decide +kernel
theorem dX6_push_47 : decode cX6_push 47 = .ok (.invokestatic 146, 3) := by decide +kernel
theorem dX6_push_50 : decode cX6_push 50 = .ok (.putfield 83, 3) := by decide +kernel
theorem dX6_push_53 : decode cX6_push 53 = .ok (.aload_n 0, 1) := by decide +kernel
theorem dX6_push_54 : decode cX6_push 54 = .ok (.dup, 1) := by decide +kernel
theorem dX6_push_55 : decode cX6_push 55 = .ok (.getfield 89, 3) := by decide +kernel
theorem dX6_push_58 : decode cX6_push 58 = .ok (.iconst 1, 1) := by decide +kernel
theorem dX6_push_59 : decode cX6_push 59 = .ok (.iadd, 1) := by decide +kernel
theorem dX6_push_60 : decode cX6_push 60 = .ok (.putfield 89, 3) := by decide +kernel
theorem dX6_push_63 : decode cX6_push 63 = .ok (.aload_n 0, 1) := by decide +kernel
theorem dX6_push_64 : decode cX6_push 64 = .ok (.dup, 1) := by decide +kernel
theorem dX6_push_65 : decode cX6_push 65 = .ok (.getfield 92, 3) := by decide +kernel
theorem dX6_push_68 : decode cX6_push 68 = .ok (.iload_n 2, 1) := by decide +kernel
theorem dX6_push_69 : decode cX6_push 69 = .ok (.iadd, 1) := by decide +kernel
theorem dX6_push_70 : decode cX6_push 70 = .ok (.putfield 92, 3) := by decide +kernel
theorem dX6_push_73 : decode cX6_push 73 = .ok (.iload_n 2, 1) := by decide +kernel
theorem dX6_push_74 : decode cX6_push 74 = .ok (.ireturn, 1) := by decide +kernel
theorem dX6_exchange_0 : decode cX6_exchange 0 = .ok (.aload_n 0, 1) := by decide +kernel
theorem dX6_exchange_1 : decode cX6_exchange 1 = .ok (.iload_n 1, 1) := by decide +kernel
theorem dX6_exchange_2 : decode cX6_exchange 2 = .ok (.invokevirtual 140, 3) := by decide +kernel
theorem dX6_exchange_5 : decode cX6_exchange 5 = .ok (.ifCond .eq 16, 3) := by decide +kernel
theorem dX6_exchange_8 : decode cX6_exchange 8 = .ok (.aload_n 0, 1) := by decide +kernel
theorem dX6_exchange_9 : decode cX6_exchange 9 = .ok (.iload_n 2, 1) := by decide +kernel
theorem dX6_exchange_10 : decode cX6_exchange 10 = .ok (.invokevirtual 140, 3) := by decide +kernel
theorem dX6_exchange_13 : decode cX6_exchange 13 = .ok (.ifCond .eq 8, 3) := by decide +kernel
theorem dX6_exchange_16 : decode cX6_exchange 16 = .ok (.iload_n 1, 1) := by decide +kernel
theorem dX6_exchange_17 : decode cX6_exchange 17 = .ok (.iload_n 2, 1) := by decide +kernel
theorem dX6_exchange_18 : decode cX6_exchange 18 = .ok (.if_icmp .ne 6, 3) := by decide +kernel
theorem dX6_exchange_21 : decode cX6_exchange 21 = .ok (.bipush (-101), 2) := by decide +kernel
theorem dX6_exchange_23 : decode cX6_exchange 23 = .ok (.ireturn, 1) := by decide +kernel
theorem dX6_exchange_24 : decode cX6_exchange 24 = .ok (.aload_n 0, 1) := by decide +kernel
theorem dX6_exchange_25 : decode cX6_exchange 25 = .ok (.aload_n 0, 1) := by decide +kernel
theorem dX6_exchange_26 : decode cX6_exchange 26 = .ok (.getfield 83, 3) := by decide +kernel
theorem dX6_exchange_29 : decode cX6_exchange 29 = .ok (.iload_n 1, 1) := by decide +kernel
theorem dX6_exchange_30 : decode cX6_exchange 30 = .ok (.iload_n 2, 1) := by decide +kernel
theorem dX6_exchange_31 : decode cX6_exchange 31 = .ok (.invokestatic 117, 3) := by decide +kernel
theorem dX6_exchange_34 : decode cX6_exchange 34 = .ok (.putfield 83, 3) := by decide +kernel
theorem dX6_exchange_37 : decode cX6_exchange 37 = .ok (.aload_n 0, 1) := by decide +kernel
theorem dX6_exchange_38 : decode cX6_exchange 38 = .ok (.getfield 83, 3) := by decide +kernel
theorem dX6_exchange_41 : decode cX6_exchange 41 = .ok (.iconst 5, 1) := by decide +kernel
theorem dX6_exchange_42 : decode cX6_exchange 42 = .ok (.invokestatic 101, 3) := by decide +kernel
theorem dX6_exchange_45 : decode cX6_exchange 45 = .ok (.ireturn, 1) := by decide +kernel
theorem dX6_aim_0 : decode cX6_aim 0 = .ok (.aload_n 0, 1) := by decide +kernel
theorem dX6_aim_1 : decode cX6_aim 1 = .ok (.iload_n 1, 1) := by decide +kernel
theorem dX6_aim_2 : decode cX6_aim 2 = .ok (.invokevirtual 140, 3) := by decide +kernel
theorem dX6_aim_5 : decode cX6_aim 5 = .ok (.ifCond .eq 16, 3) := by decide +kernel
theorem dX6_aim_8 : decode cX6_aim 8 = .ok (.aload_n 0, 1) := by decide +kernel
theorem dX6_aim_9 : decode cX6_aim 9 = .ok (.iload_n 2, 1) := by decide +kernel
theorem dX6_aim_10 : decode cX6_aim 10 = .ok (.invokevirtual 140, 3) := by decide +kernel
theorem dX6_aim_13 : decode cX6_aim 13 = .ok (.ifCond .eq 8, 3) := by decide +kernel
theorem dX6_aim_16 : decode cX6_aim 16 = .ok (.iload_n 1, 1) := by decide +kernel
theorem dX6_aim_17 : decode cX6_aim 17 = .ok (.iload_n 2, 1) := by decide +kernel
theorem dX6_aim_18 : decode cX6_aim 18 = .ok (.if_icmp .ne 6, 3) := by decide +kernel
theorem dX6_aim_21 : decode cX6_aim 21 = .ok (.bipush (-101), 2) := by decide +kernel
theorem dX6_aim_23 : decode cX6_aim 23 = .ok (.ireturn, 1) := by decide +kernel
theorem dX6_aim_24 : decode cX6_aim 24 = .ok (.aload_n 0, 1) := by decide +kernel
theorem dX6_aim_25 : decode cX6_aim 25 = .ok (.aload_n 0, 1) := by decide +kernel
theorem dX6_aim_26 : decode cX6_aim 26 = .ok (.getfield 86, 3) := by decide +kernel
theorem dX6_aim_29 : decode cX6_aim 29 = .ok (.iload_n 1, 1) := by decide +kernel
theorem dX6_aim_30 : decode cX6_aim 30 = .ok (.iload_n 2, 1) := by decide +kernel
theorem dX6_aim_31 : decode cX6_aim 31 = .ok (.invokestatic 117, 3) := by decide +kernel
theorem dX6_aim_34 : decode cX6_aim 34 = .ok (.putfield 86, 3) := by decide +kernel
theorem dX6_aim_37 : decode cX6_aim 37 = .ok (.aload_n 0, 1) := by decide +kernel
theorem dX6_aim_38 : decode cX6_aim 38 = .ok (.getfield 86, 3) := by decide +kernel
theorem dX6_aim_41 : decode cX6_aim 41 = .ok (.iconst 5, 1) := by decide +kernel
theorem dX6_aim_42 : decode cX6_aim 42 = .ok (.invokestatic 101, 3) := by decide +kernel
theorem dX6_aim_45 : decode cX6_aim 45 = .ok (.ireturn, 1) := by decide +kernel
theorem dX6_recast_0 : decode cX6_recast 0 = .ok (.aload_n 0, 1) := by decide +kernel
theorem dX6_recast_1 : decode cX6_recast 1 = .ok (.iload_n 1, 1) := by decide +kernel
theorem dX6_recast_2 : decode cX6_recast 2 = .ok (.invokevirtual 133, 3) := by decide +kernel
theorem dX6_recast_5 : decode cX6_recast 5 = .ok (.ifCond .ne 6, 3) := by decide +kernel
theorem dX6_recast_8 : decode cX6_recast 8 = .ok (.bipush (-101), 2) := by decide +kernel
theorem dX6_recast_10 : decode cX6_recast 10 = .ok (.ireturn, 1) := by decide +kernel
theorem dX6_recast_11 : decode cX6_recast 11 = .ok (.iload_n 2, 1) := by decide +kernel
theorem dX6_recast_12 : decode cX6_recast 12 = .ok (.iconst 0, 1) := by decide +kernel
theorem dX6_recast_13 : decode cX6_recast 13 = .ok (.iconst 4, 1) := by decide +kernel
theorem dX6_recast_14 : decode cX6_recast 14 = .ok (.invokestatic 47, 3) := by decide +kernel
theorem dX6_recast_17 : decode cX6_recast 17 = .ok (.ifCond .ne 6, 3) := by decide +kernel
theorem dX6_recast_20 : decode cX6_recast 20 = .ok (.bipush (-102), 2) := by decide +kernel
theorem dX6_recast_22 : decode cX6_recast 22 = .ok (.ireturn, 1) := by decide +kernel
theorem dX6_recast_23 : decode cX6_recast 23 = .ok (.aload_n 0, 1) := by decide +kernel
theorem dX6_recast_24 : decode cX6_recast 24 = .ok (.getfield 7, 3) := by decide +kernel
theorem dX6_recast_27 : decode cX6_recast 27 = .ok (.iload_n 1, 1) := by decide +kernel
theorem dX6_recast_28 : decode cX6_recast 28 = .ok (.iaload, 1) := by decide +kernel
theorem dX6_recast_29 : decode cX6_recast 29 = .ok (.istore_n 3, 1) := by decide +kernel
theorem dX6_recast_30 : decode cX6_recast 30 = .ok (.aload_n 0, 1) := by decide +kernel
theorem dX6_recast_31 : decode cX6_recast 31 = .ok (.getfield 7, 3) := by decide +kernel
theorem dX6_recast_34 : decode cX6_recast 34 = .ok (.iload_n 1, 1) := by decide +kernel
theorem dX6_recast_35 : decode cX6_recast 35 = .ok (.iload_n 2, 1) := by decide +kernel
theorem dX6_recast_36 : decode cX6_recast 36 = .ok (.iastore, 1) := by decide +kernel
theorem dX6_recast_37 : decode cX6_recast 37 = .ok (.iload_n 3, 1) := by decide +kernel
theorem dX6_recast_38 : decode cX6_recast 38 = .ok (.ireturn, 1) := by decide +kernel
theorem dX6_rankOf_0 : decode cX6_rankOf 0 = .ok (.iconst 0, 1) := by decide +kernel
theorem dX6_rankOf_1 : decode cX6_rankOf 1 = .ok (.istore_n 1, 1) := by decide +kernel
theorem dX6_rankOf_2 : decode cX6_rankOf 2 = .ok (.iconst 0, 1) := by decide +kernel
theorem dX6_rankOf_3 : decode cX6_rankOf 3 = .ok (.istore_n 2, 1) := by decide +kernel
theorem dX6_rankOf_4 : decode cX6_rankOf 4 = .ok (.iload_n 2, 1) := by decide +kernel
theorem dX6_rankOf_5 : decode cX6_rankOf 5 = .ok (.bipush 6, 2) := by decide +kernel
theorem dX6_rankOf_7 : decode cX6_rankOf 7 = .ok (.if_icmp .ge 60, 3) := by decide +kernel
theorem dX6_rankOf_10 : decode cX6_rankOf 10 = .ok (.iconst 0, 1) := by decide +kernel
theorem dX6_rankOf_11 : decode cX6_rankOf 11 = .ok (.istore_n 3, 1) := by decide +kernel
theorem dX6_rankOf_12 : decode cX6_rankOf 12 = .ok (.iload_n 2, 1) := by decide +kernel
theorem dX6_rankOf_13 : decode cX6_rankOf 13 = .ok (.iconst 1, 1) := by decide +kernel
theorem dX6_rankOf_14 : decode cX6_rankOf 14 = .ok (.iadd, 1) := by decide +kernel
theorem dX6_rankOf_15 : decode cX6_rankOf 15 = .ok (.istore 4, 2) := by decide +kernel
theorem dX6_rankOf_17 : decode cX6_rankOf 17 = .ok (.iload 4, 2) := by decide +kernel
theorem dX6_rankOf_19 : decode cX6_rankOf 19 = .ok (.bipush 6, 2) := by decide +kernel
theorem dX6_rankOf_21 : decode cX6_rankOf 21 = .ok (.if_icmp .ge 31, 3) := by decide +kernel
theorem dX6_rankOf_24 : decode cX6_rankOf 24 = .ok (.iload_n 3, 1) := by decide +kernel
theorem dX6_rankOf_25 : decode cX6_rankOf 25 = .ok (.iload_n 0, 1) := by decide +kernel
theorem dX6_rankOf_26 : decode cX6_rankOf 26 = .ok (.iload 4, 2) := by decide +kernel
theorem dX6_rankOf_28 : decode cX6_rankOf 28 = .ok (.invokestatic 105, 3) := by decide +kernel
theorem dX6_rankOf_31 : decode cX6_rankOf 31 = .ok (.iload_n 0, 1) := by decide +kernel
theorem dX6_rankOf_32 : decode cX6_rankOf 32 = .ok (.iload_n 2, 1) := by decide +kernel
theorem dX6_rankOf_33 : decode cX6_rankOf 33 = .ok (.invokestatic 105, 3) := by decide +kernel
theorem dX6_rankOf_36 : decode cX6_rankOf 36 = .ok (.if_icmp .ge 7, 3) := by decide +kernel
theorem dX6_rankOf_39 : decode cX6_rankOf 39 = .ok (.iconst 1, 1) := by decide +kernel
theorem dX6_rankOf_40 : decode cX6_rankOf 40 = .ok (.goto 4, 3) := by decide +kernel
theorem dX6_rankOf_43 : decode cX6_rankOf 43 = .ok (.iconst 0, 1) := by decide +kernel
theorem dX6_rankOf_44 : decode cX6_rankOf 44 = .ok (.iadd, 1) := by decide +kernel
theorem dX6_rankOf_45 : decode cX6_rankOf 45 = .ok (.istore_n 3, 1) := by decide +kernel
theorem dX6_rankOf_46 : decode cX6_rankOf 46 = .ok (.iinc 4 1, 3) := by decide +kernel
theorem dX6_rankOf_49 : decode cX6_rankOf 49 = .ok (.goto (-32), 3) := by decide +kernel
theorem dX6_rankOf_52 : decode cX6_rankOf 52 = .ok (.iload_n 1, 1) := by decide +kernel
theorem dX6_rankOf_53 : decode cX6_rankOf 53 = .ok (.bipush 6, 2) := by decide +kernel
theorem dX6_rankOf_55 : decode cX6_rankOf 55 = .ok (.iload_n 2, 1) := by decide +kernel
theorem dX6_rankOf_56 : decode cX6_rankOf 56 = .ok (.isub, 1) := by decide +kernel
theorem dX6_rankOf_57 : decode cX6_rankOf 57 = .ok (.imul, 1) := by decide +kernel
theorem dX6_rankOf_58 : decode cX6_rankOf 58 = .ok (.iload_n 3, 1) := by decide +kernel
theorem dX6_rankOf_59 : decode cX6_rankOf 59 = .ok (.iadd, 1) := by decide +kernel
theorem dX6_rankOf_60 : decode cX6_rankOf 60 = .ok (.istore_n 1, 1) := by decide +kernel
theorem dX6_rankOf_61 : decode cX6_rankOf 61 = .ok (.iinc 2 1, 3) := by decide +kernel
theorem dX6_rankOf_64 : decode cX6_rankOf 64 = .ok (.goto (-60), 3) := by decide +kernel
theorem dX6_rankOf_67 : decode cX6_rankOf 67 = .ok (.iload_n 1, 1) := by decide +kernel
theorem dX6_rankOf_68 : decode cX6_rankOf 68 = .ok (.ireturn, 1) := by decide +kernel
theorem dX6_trayOf_0 : decode cX6_trayOf 0 = .ok (.sipush 720, 3) := by decide +kernel
theorem dX6_trayOf_3 : decode cX6_trayOf 3 = .ok (.istore_n 1, 1) := by decide +kernel
theorem dX6_trayOf_4 : decode cX6_trayOf 4 = .ok (.iload_n 0, 1) := by decide +kernel
theorem dX6_trayOf_5 : decode cX6_trayOf 5 = .ok (.istore_n 2, 1) := by decide +kernel
theorem dX6_trayOf_6 : decode cX6_trayOf 6 = .ok (.iconst 0, 1) := by decide +kernel
theorem dX6_trayOf_7 : decode cX6_trayOf 7 = .ok (.istore_n 3, 1) := by decide +kernel
theorem dX6_trayOf_8 : decode cX6_trayOf 8 = .ok (.iconst 0, 1) := by decide +kernel
theorem dX6_trayOf_9 : decode cX6_trayOf 9 = .ok (.istore 4, 2) := by decide +kernel
theorem dX6_trayOf_11 : decode cX6_trayOf 11 = .ok (.iconst 0, 1) := by decide +kernel
theorem dX6_trayOf_12 : decode cX6_trayOf 12 = .ok (.istore 5, 2) := by decide +kernel
theorem dX6_trayOf_14 : decode cX6_trayOf 14 = .ok (.iload 5, 2) := by decide +kernel
theorem dX6_trayOf_16 : decode cX6_trayOf 16 = .ok (.bipush 6, 2) := by decide +kernel
theorem dX6_trayOf_18 : decode cX6_trayOf 18 = .ok (.if_icmp .ge 87, 3) := by decide +kernel
theorem dX6_trayOf_21 : decode cX6_trayOf 21 = .ok (.iload_n 1, 1) := by decide +kernel
theorem dX6_trayOf_22 : decode cX6_trayOf 22 = .ok (.bipush 6, 2) := by decide +kernel
theorem dX6_trayOf_24 : decode cX6_trayOf 24 = .ok (.iload 5, 2) := by decide +kernel
theorem dX6_trayOf_26 : decode cX6_trayOf 26 = .ok (.isub, 1) := by decide +kernel
theorem dX6_trayOf_27 : decode cX6_trayOf 27 = .ok (.idiv, 1) := by decide +kernel
theorem dX6_trayOf_28 : decode cX6_trayOf 28 = .ok (.istore_n 1, 1) := by decide +kernel
theorem dX6_trayOf_29 : decode cX6_trayOf 29 = .ok (.iload_n 2, 1) := by decide +kernel
theorem dX6_trayOf_30 : decode cX6_trayOf 30 = .ok (.iload_n 1, 1) := by decide +kernel
theorem dX6_trayOf_31 : decode cX6_trayOf 31 = .ok (.idiv, 1) := by decide +kernel
theorem dX6_trayOf_32 : decode cX6_trayOf 32 = .ok (.istore 6, 2) := by decide +kernel
theorem dX6_trayOf_34 : decode cX6_trayOf 34 = .ok (.iload_n 2, 1) := by decide +kernel
theorem dX6_trayOf_35 : decode cX6_trayOf 35 = .ok (.iload_n 1, 1) := by decide +kernel
theorem dX6_trayOf_36 : decode cX6_trayOf 36 = .ok (.irem, 1) := by decide +kernel
theorem dX6_trayOf_37 : decode cX6_trayOf 37 = .ok (.istore_n 2, 1) := by decide +kernel
theorem dX6_trayOf_38 : decode cX6_trayOf 38 = .ok (.iconst 0, 1) := by decide +kernel
theorem dX6_trayOf_39 : decode cX6_trayOf 39 = .ok (.istore 7, 2) := by decide +kernel
theorem dX6_trayOf_41 : decode cX6_trayOf 41 = .ok (.iload_n 3, 1) := by decide +kernel
theorem dX6_trayOf_42 : decode cX6_trayOf 42 = .ok (.iload 7, 2) := by decide +kernel
theorem dX6_trayOf_44 : decode cX6_trayOf 44 = .ok (.invokestatic 62, 3) := by decide +kernel
theorem dX6_trayOf_47 : decode cX6_trayOf 47 = .ok (.ifCond .ne 8, 3) := by decide +kernel
theorem dX6_trayOf_50 : decode cX6_trayOf 50 = .ok (.iload 6, 2) := by decide +kernel
theorem dX6_trayOf_52 : decode cX6_trayOf 52 = .ok (.ifCond .le 28, 3) := by decide +kernel
theorem dX6_trayOf_55 : decode cX6_trayOf 55 = .ok (.iload 6, 2) := by decide +kernel
theorem dX6_trayOf_57 : decode cX6_trayOf 57 = .ok (.iload_n 3, 1) := by decide +kernel
theorem dX6_trayOf_58 : decode cX6_trayOf 58 = .ok (.iload 7, 2) := by decide +kernel
theorem dX6_trayOf_60 : decode cX6_trayOf 60 = .ok (.invokestatic 62, 3) := by decide +kernel
theorem dX6_trayOf_63 : decode cX6_trayOf 63 = .ok (.ifCond .eq 7, 3) := by decide +kernel
theorem dX6_trayOf_66 : decode cX6_trayOf 66 = .ok (.iconst 0, 1) := by decide +kernel
theorem dX6_trayOf_67 : decode cX6_trayOf 67 = .ok (.goto 4, 3) := by decide +kernel
theorem dX6_trayOf_70 : decode cX6_trayOf 70 = .ok (.iconst 1, 1) := by decide +kernel
theorem dX6_trayOf_71 : decode cX6_trayOf 71 = .ok (.isub, 1) := by decide +kernel
theorem dX6_trayOf_72 : decode cX6_trayOf 72 = .ok (.istore 6, 2) := by decide +kernel
theorem dX6_trayOf_74 : decode cX6_trayOf 74 = .ok (.iinc 7 1, 3) := by decide +kernel
theorem dX6_trayOf_77 : decode cX6_trayOf 77 = .ok (.goto (-36), 3) := by decide +kernel
theorem dX6_trayOf_80 : decode cX6_trayOf 80 = .ok (.iload_n 3, 1) := by decide +kernel
theorem dX6_trayOf_81 : decode cX6_trayOf 81 = .ok (.iconst 1, 1) := by decide +kernel
theorem dX6_trayOf_82 : decode cX6_trayOf 82 = .ok (.iload 7, 2) := by decide +kernel
theorem dX6_trayOf_84 : decode cX6_trayOf 84 = .ok (.ishl, 1) := by decide +kernel
theorem dX6_trayOf_85 : decode cX6_trayOf 85 = .ok (.ior, 1) := by decide +kernel
theorem dX6_trayOf_86 : decode cX6_trayOf 86 = .ok (.istore_n 3, 1) := by decide +kernel
theorem dX6_trayOf_87 : decode cX6_trayOf 87 = .ok (.iload 4, 2) := by decide +kernel
theorem dX6_trayOf_89 : decode cX6_trayOf 89 = .ok (.iload 7, 2) := by decide +kernel
theorem dX6_trayOf_91 : decode cX6_trayOf 91 = .ok (.iconst 3, 1) := by decide +kernel
theorem dX6_trayOf_92 : decode cX6_trayOf 92 = .ok (.iload 5, 2) := by decide +kernel
theorem dX6_trayOf_94 : decode cX6_trayOf 94 = .ok (.imul, 1) := by decide +kernel
theorem dX6_trayOf_95 : decode cX6_trayOf 95 = .ok (.ishl, 1) := by decide +kernel
theorem dX6_trayOf_96 : decode cX6_trayOf 96 = .ok (.ior, 1) := by decide +kernel
theorem dX6_trayOf_97 : decode cX6_trayOf 97 = .ok (.istore 4, 2) := by decide +kernel
theorem dX6_trayOf_99 : decode cX6_trayOf 99 = .ok (.iinc 5 1, 3) := by decide +kernel
theorem dX6_trayOf_102 : decode cX6_trayOf 102 = .ok (.goto (-88), 3) := by decide +kernel
theorem dX6_trayOf_105 : decode cX6_trayOf 105 = .ok (.iload 4, 2) := by decide +kernel
theorem dX6_trayOf_107 : decode cX6_trayOf 107 = .ok (.ireturn, 1) := by decide +kernel
theorem dX6_comeFrom_0 : decode cX6_comeFrom 0 = .ok (.aload_n 0, 1) := by decide +kernel
theorem dX6_comeFrom_1 : decode cX6_comeFrom 1 = .ok (.iload_n 1, 1) := by decide +kernel
theorem dX6_comeFrom_2 : decode cX6_comeFrom 2 = .ok (.invokevirtual 149, 3) := by decide +kernel
theorem dX6_comeFrom_5 : decode cX6_comeFrom 5 = .ok (.istore_n 3, 1) := by decide +kernel
theorem dX6_comeFrom_6 : decode cX6_comeFrom 6 = .ok (.iconst 0, 1) := by decide +kernel
theorem dX6_comeFrom_7 : decode cX6_comeFrom 7 = .ok (.istore 4, 2) := by decide +kernel
theorem dX6_comeFrom_9 : decode cX6_comeFrom 9 = .ok (.iload 4, 2) := by decide +kernel
theorem dX6_comeFrom_11 : decode cX6_comeFrom 11 = .ok (.iconst 5, 1) := by decide +kernel
theorem dX6_comeFrom_12 : decode cX6_comeFrom 12 = .ok (.if_icmp .ge 71, 3) := by decide +kernel
theorem dX6_comeFrom_15 : decode cX6_comeFrom 15 = .ok (.iload_n 3, 1) := by decide +kernel
theorem dX6_comeFrom_16 : decode cX6_comeFrom 16 = .ok (.iload 4, 2) := by decide +kernel
theorem dX6_comeFrom_18 : decode cX6_comeFrom 18 = .ok (.invokestatic 62, 3) := by decide +kernel
theorem dX6_comeFrom_21 : decode cX6_comeFrom 21 = .ok (.ifCond .eq 56, 3) := by decide +kernel
theorem dX6_comeFrom_24 : decode cX6_comeFrom 24 = .ok (.iload_n 1, 1) := by decide +kernel
theorem dX6_comeFrom_25 : decode cX6_comeFrom 25 = .ok (.iload 4, 2) := by decide +kernel
theorem dX6_comeFrom_27 : decode cX6_comeFrom 27 = .ok (.invokestatic 146, 3) := by decide +kernel
theorem dX6_comeFrom_30 : decode cX6_comeFrom 30 = .ok (.invokestatic 152, 3) := by decide +kernel
theorem dX6_comeFrom_33 : decode cX6_comeFrom 33 = .ok (.istore 5, 2) := by decide +kernel
theorem dX6_comeFrom_35 : decode cX6_comeFrom 35 = .ok (.iload_n 2, 1) := by decide +kernel
theorem dX6_comeFrom_36 : decode cX6_comeFrom 36 = .ok (.aload_n 0, 1) := by decide +kernel
theorem dX6_comeFrom_37 : decode cX6_comeFrom 37 = .ok (.iload_n 1, 1) := by decide +kernel
theorem dX6_comeFrom_38 : decode cX6_comeFrom 38 = .ok (.iload 4, 2) := by decide +kernel
theorem dX6_comeFrom_40 : decode cX6_comeFrom 40 = .ok (.invokevirtual 121, 3) := by decide +kernel
theorem dX6_comeFrom_43 : decode cX6_comeFrom 43 = .ok (.iadd, 1) := by decide +kernel
theorem dX6_comeFrom_44 : decode cX6_comeFrom 44 = .ok (.istore 6, 2) := by decide +kernel
theorem dX6_comeFrom_46 : decode cX6_comeFrom 46 = .ok (.aload_n 0, 1) := by decide +kernel
theorem dX6_comeFrom_47 : decode cX6_comeFrom 47 = .ok (.getfield 26, 3) := by decide +kernel
theorem dX6_comeFrom_50 : decode cX6_comeFrom 50 = .ok (.iload 5, 2) := by decide +kernel
theorem dX6_comeFrom_52 : decode cX6_comeFrom 52 = .ok (.iload 6, 2) := by decide +kernel
theorem dX6_comeFrom_54 : decode cX6_comeFrom 54 = .ok (.aload_n 0, 1) := by decide +kernel
theorem dX6_comeFrom_55 : decode cX6_comeFrom 55 = .ok (.getfield 26, 3) := by decide +kernel
theorem dX6_comeFrom_58 : decode cX6_comeFrom 58 = .ok (.iload 5, 2) := by decide +kernel
theorem dX6_comeFrom_60 : decode cX6_comeFrom 60 = .ok (.iaload, 1) := by decide +kernel
theorem dX6_comeFrom_61 : decode cX6_comeFrom 61 = .ok (.if_icmp .ge 8, 3) := by decide +kernel
theorem dX6_comeFrom_64 : decode cX6_comeFrom 64 = .ok (.iload 6, 2) := by decide +kernel
theorem dX6_comeFrom_66 : decode cX6_comeFrom 66 = .ok (.goto 10, 3) := by decide +kernel
theorem dX6_comeFrom_69 : decode cX6_comeFrom 69 = .ok (.aload_n 0, 1) := by decide +kernel
theorem dX6_comeFrom_70 : decode cX6_comeFrom 70 = .ok (.getfield 26, 3) := by decide +kernel
theorem dX6_comeFrom_73 : decode cX6_comeFrom 73 = .ok (.iload 5, 2) := by decide +kernel
theorem dX6_comeFrom_75 : decode cX6_comeFrom 75 = .ok (.iaload, 1) := by decide +kernel
theorem dX6_comeFrom_76 : decode cX6_comeFrom 76 = .ok (.iastore, 1) := by decide +kernel
theorem dX6_comeFrom_77 : decode cX6_comeFrom 77 = .ok (.iinc 4 1, 3) := by decide +kernel
theorem dX6_comeFrom_80 : decode cX6_comeFrom 80 = .ok (.goto (-71), 3) := by decide +kernel
theorem dX6_comeFrom_83 : decode cX6_comeFrom 83 = .ok (.return_, 1) := by decide +kernel
theorem dX6_layCosts_0 : decode cX6_layCosts 0 = .ok (.iconst 0, 1) := by decide +kernel
theorem dX6_layCosts_1 : decode cX6_layCosts 1 = .ok (.istore_n 2, 1) := by decide +kernel
theorem dX6_layCosts_2 : decode cX6_layCosts 2 = .ok (.iload_n 2, 1) := by decide +kernel
theorem dX6_layCosts_3 : decode cX6_layCosts 3 = .ok (.sipush 720, 3) := by decide +kernel
theorem dX6_layCosts_6 : decode cX6_layCosts 6 = .ok (.if_icmp .ge 17, 3) := by decide +kernel
theorem dX6_layCosts_9 : decode cX6_layCosts 9 = .ok (.aload_n 0, 1) := by decide +kernel
theorem dX6_layCosts_10 : decode cX6_layCosts 10 = .ok (.getfield 26, 3) := by decide +kernel
theorem dX6_layCosts_13 : decode cX6_layCosts 13 = .ok (.iload_n 2, 1) := by decide +kernel
theorem dX6_layCosts_14 : decode cX6_layCosts 14 = .ok (.ldc 155, 2) := by decide +kernel
theorem dX6_layCosts_16 : decode cX6_layCosts 16 = .ok (.iastore, 1) := by decide +kernel
theorem dX6_layCosts_17 : decode cX6_layCosts 17 = .ok (.iinc 2 1, 3) := by decide +kernel
theorem dX6_layCosts_20 : decode cX6_layCosts 20 = .ok (.goto (-18), 3) := by decide +kernel
theorem dX6_layCosts_23 : decode cX6_layCosts 23 = .ok (.aload_n 0, 1) := by decide +kernel
theorem dX6_layCosts_24 : decode cX6_layCosts 24 = .ok (.getfield 26, 3) := by decide +kernel
theorem dX6_layCosts_27 : decode cX6_layCosts 27 = .ok (.iload_n 1, 1) := by decide +kernel
theorem dX6_layCosts_28 : decode cX6_layCosts 28 = .ok (.invokestatic 152, 3) := by decide +kernel
theorem dX6_layCosts_31 : decode cX6_layCosts 31 = .ok (.iconst 0, 1) := by decide +kernel
theorem dX6_layCosts_32 : decode cX6_layCosts 32 = .ok (.iastore, 1) := by decide +kernel
theorem dX6_layCosts_33 : decode cX6_layCosts 33 = .ok (.iconst 0, 1) := by decide +kernel
theorem dX6_layCosts_34 : decode cX6_layCosts 34 = .ok (.istore_n 2, 1) := by decide +kernel
theorem dX6_layCosts_35 : decode cX6_layCosts 35 = .ok (.iconst 0, 1) := by decide +kernel
theorem dX6_layCosts_36 : decode cX6_layCosts 36 = .ok (.istore_n 3, 1) := by decide +kernel
theorem dX6_layCosts_37 : decode cX6_layCosts 37 = .ok (.iload_n 3, 1) := by decide +kernel
theorem dX6_layCosts_38 : decode cX6_layCosts 38 = .ok (.iload_n 2, 1) := by decide +kernel
theorem dX6_layCosts_39 : decode cX6_layCosts 39 = .ok (.iconst 3, 1) := by decide +kernel
theorem dX6_layCosts_40 : decode cX6_layCosts 40 = .ok (.iadd, 1) := by decide +kernel
theorem dX6_layCosts_41 : decode cX6_layCosts 41 = .ok (.if_icmp .gt 49, 3) := by decide +kernel
theorem dX6_layCosts_44 : decode cX6_layCosts 44 = .ok (.iconst 0, 1) := by decide +kernel
theorem dX6_layCosts_45 : decode cX6_layCosts 45 = .ok (.istore 4, 2) := by decide +kernel
theorem dX6_layCosts_47 : decode cX6_layCosts 47 = .ok (.iload 4, 2) := by decide +kernel
theorem dX6_layCosts_49 : decode cX6_layCosts 49 = .ok (.sipush 720, 3) := by decide +kernel
theorem dX6_layCosts_52 : decode cX6_layCosts 52 = .ok (.if_icmp .ge 32, 3) := by decide +kernel
theorem dX6_layCosts_55 : decode cX6_layCosts 55 = .ok (.aload_n 0, 1) := by decide +kernel
theorem dX6_layCosts_56 : decode cX6_layCosts 56 = .ok (.getfield 26, 3) := by decide +kernel
theorem dX6_layCosts_59 : decode cX6_layCosts 59 = .ok (.iload 4, 2) := by decide +kernel
theorem dX6_layCosts_61 : decode cX6_layCosts 61 = .ok (.iaload, 1) := by decide +kernel
theorem dX6_layCosts_62 : decode cX6_layCosts 62 = .ok (.iload_n 3, 1) := by decide +kernel
theorem dX6_layCosts_63 : decode cX6_layCosts 63 = .ok (.if_icmp .ne 15, 3) := by decide +kernel
theorem dX6_layCosts_66 : decode cX6_layCosts 66 = .ok (.iload_n 3, 1) := by decide +kernel
theorem dX6_layCosts_67 : decode cX6_layCosts 67 = .ok (.istore_n 2, 1) := by decide +kernel
theorem dX6_layCosts_68 : decode cX6_layCosts 68 = .ok (.aload_n 0, 1) := by decide +kernel
theorem dX6_layCosts_69 : decode cX6_layCosts 69 = .ok (.iload 4, 2) := by decide +kernel
theorem dX6_layCosts_71 : decode cX6_layCosts 71 = .ok (.invokestatic 156, 3) := by decide +kernel
theorem dX6_layCosts_74 : decode cX6_layCosts 74 = .ok (.iload_n 3, 1) := by decide +kernel
theorem dX6_layCosts_75 : decode cX6_layCosts 75 = .ok (.invokevirtual 159, 3) := by decide +kernel
theorem dX6_layCosts_78 : decode cX6_layCosts 78 = .ok (.iinc 4 1, 3) := by decide +kernel
theorem dX6_layCosts_81 : decode cX6_layCosts 81 = .ok (.goto (-34), 3) := by decide +kernel
theorem dX6_layCosts_84 : decode cX6_layCosts 84 = .ok (.iinc 3 1, 3) := by decide +kernel
theorem dX6_layCosts_87 : decode cX6_layCosts 87 = .ok (.goto (-50), 3) := by decide +kernel
theorem dX6_layCosts_90 : decode cX6_layCosts 90 = .ok (.iload_n 2, 1) := by decide +kernel
theorem dX6_layCosts_91 : decode cX6_layCosts 91 = .ok (.ireturn, 1) := by decide +kernel
theorem dX6_costOf_0 : decode cX6_costOf 0 = .ok (.aload_n 0, 1) := by decide +kernel
theorem dX6_costOf_1 : decode cX6_costOf 1 = .ok (.getfield 26, 3) := by decide +kernel
theorem dX6_costOf_4 : decode cX6_costOf 4 = .ok (.iload_n 1, 1) := by decide +kernel
theorem dX6_costOf_5 : decode cX6_costOf 5 = .ok (.invokestatic 152, 3) := by decide +kernel
theorem dX6_costOf_8 : decode cX6_costOf 8 = .ok (.iaload, 1) := by decide +kernel
theorem dX6_costOf_9 : decode cX6_costOf 9 = .ok (.istore_n 2, 1) := by decide +kernel
theorem dX6_costOf_10 : decode cX6_costOf 10 = .ok (.iload_n 2, 1) := by decide +kernel
theorem dX6_costOf_11 : decode cX6_costOf 11 = .ok (.ldc 155, 2) := by decide +kernel
theorem dX6_costOf_13 : decode cX6_costOf 13 = .ok (.if_icmp .ne 7, 3) := by decide +kernel
theorem dX6_costOf_16 : decode cX6_costOf 16 = .ok (.iconst (-1), 1) := by decide +kernel
theorem dX6_costOf_17 : decode cX6_costOf 17 = .ok (.goto 4, 3) := by decide +kernel
theorem dX6_costOf_20 : decode cX6_costOf 20 = .ok (.iload_n 2, 1) := by decide +kernel
theorem dX6_costOf_21 : decode cX6_costOf 21 = .ok (.ireturn, 1) := by decide +kernel
theorem dX6_firstOf_0 : decode cX6_firstOf 0 = .ok (.aload_n 0, 1) := by decide +kernel
theorem dX6_firstOf_1 : decode cX6_firstOf 1 = .ok (.iload_n 1, 1) := by decide +kernel
theorem dX6_firstOf_2 : decode cX6_firstOf 2 = .ok (.invokevirtual 163, 3) := by decide +kernel
theorem dX6_firstOf_5 : decode cX6_firstOf 5 = .ok (.istore_n 2, 1) := by decide +kernel
theorem dX6_firstOf_6 : decode cX6_firstOf 6 = .ok (.iconst 0, 1) := by decide +kernel
theorem dX6_firstOf_7 : decode cX6_firstOf 7 = .ok (.istore_n 3, 1) := by decide +kernel
theorem dX6_firstOf_8 : decode cX6_firstOf 8 = .ok (.iload_n 3, 1) := by decide +kernel
theorem dX6_firstOf_9 : decode cX6_firstOf 9 = .ok (.iconst 5, 1) := by decide +kernel
theorem dX6_firstOf_10 : decode cX6_firstOf 10 = .ok (.if_icmp .ge 46, 3) := by decide +kernel
theorem dX6_firstOf_13 : decode cX6_firstOf 13 = .ok (.iload_n 2, 1) := by decide +kernel
theorem dX6_firstOf_14 : decode cX6_firstOf 14 = .ok (.ifCond .le 36, 3) := by decide +kernel
theorem dX6_firstOf_17 : decode cX6_firstOf 17 = .ok (.aload_n 0, 1) := by decide +kernel
theorem dX6_firstOf_18 : decode cX6_firstOf 18 = .ok (.iload_n 1, 1) := by decide +kernel
theorem dX6_firstOf_19 : decode cX6_firstOf 19 = .ok (.iload_n 3, 1) := by decide +kernel
theorem dX6_firstOf_20 : decode cX6_firstOf 20 = .ok (.invokevirtual 121, 3) := by decide +kernel
theorem dX6_firstOf_23 : decode cX6_firstOf 23 = .ok (.ifCond .le 27, 3) := by decide +kernel
theorem dX6_firstOf_26 : decode cX6_firstOf 26 = .ok (.aload_n 0, 1) := by decide +kernel
theorem dX6_firstOf_27 : decode cX6_firstOf 27 = .ok (.getfield 26, 3) := by decide +kernel
theorem dX6_firstOf_30 : decode cX6_firstOf 30 = .ok (.iload_n 1, 1) := by decide +kernel
theorem dX6_firstOf_31 : decode cX6_firstOf 31 = .ok (.iload_n 3, 1) := by decide +kernel
theorem dX6_firstOf_32 : decode cX6_firstOf 32 = .ok (.invokestatic 146, 3) := by decide +kernel
theorem dX6_firstOf_35 : decode cX6_firstOf 35 = .ok (.invokestatic 152, 3) := by decide +kernel
theorem dX6_firstOf_38 : decode cX6_firstOf 38 = .ok (.iaload, 1) := by decide +kernel
theorem dX6_firstOf_39 : decode cX6_firstOf 39 = .ok (.iload_n 2, 1) := by decide +kernel
theorem dX6_firstOf_40 : decode cX6_firstOf 40 = .ok (.aload_n 0, 1) := by decide +kernel
theorem dX6_firstOf_41 : decode cX6_firstOf 41 = .ok (.iload_n 1, 1) := by decide +kernel
theorem dX6_firstOf_42 : decode cX6_firstOf 42 = .ok (.iload_n 3, 1) := by decide +kernel
theorem dX6_firstOf_43 : decode cX6_firstOf 43 = .ok (.invokevirtual 121, 3) := by decide +kernel
theorem dX6_firstOf_46 : decode cX6_firstOf 46 = .ok (.isub, 1) := by decide +kernel
theorem dX6_firstOf_47 : decode cX6_firstOf 47 = .ok (.if_icmp .eq 9, 3) := by decide +kernel
theorem dX6_firstOf_50 : decode cX6_firstOf 50 = .ok (.iinc 3 1, 3) := by decide +kernel
theorem dX6_firstOf_53 : decode cX6_firstOf 53 = .ok (.goto (-45), 3) := by decide +kernel
theorem dX6_firstOf_56 : decode cX6_firstOf 56 = .ok (.iload_n 3, 1) := by decide +kernel
theorem dX6_firstOf_57 : decode cX6_firstOf 57 = .ok (.iconst 5, 1) := by decide +kernel
theorem dX6_firstOf_58 : decode cX6_firstOf 58 = .ok (.if_icmp .ne 7, 3) := by decide +kernel
theorem dX6_firstOf_61 : decode cX6_firstOf 61 = .ok (.iconst (-1), 1) := by decide +kernel
theorem dX6_firstOf_62 : decode cX6_firstOf 62 = .ok (.goto 4, 3) := by decide +kernel
theorem dX6_firstOf_65 : decode cX6_firstOf 65 = .ok (.iload_n 3, 1) := by decide +kernel
theorem dX6_firstOf_66 : decode cX6_firstOf 66 = .ok (.ireturn, 1) := by decide +kernel
theorem dX6_leastNow_0 : decode cX6_leastNow 0 = .ok (.aload_n 0, 1) := by decide +kernel
theorem dX6_leastNow_1 : decode cX6_leastNow 1 = .ok (.aload_n 0, 1) := by decide +kernel
theorem dX6_leastNow_2 : decode cX6_leastNow 2 = .ok (.getfield 86, 3) := by decide +kernel
theorem dX6_leastNow_5 : decode cX6_leastNow 5 = .ok (.invokevirtual 166, 3) := by decide +kernel
theorem dX6_leastNow_8 : decode cX6_leastNow 8 = .ok (.pop, 1) := by decide +kernel
theorem dX6_leastNow_9 : decode cX6_leastNow 9 = .ok (.iload_n 1, 1) := by decide +kernel
theorem dX6_leastNow_10 : decode cX6_leastNow 10 = .ok (.ifCond .eq 15, 3) := by decide +kernel
theorem dX6_leastNow_13 : decode cX6_leastNow 13 = .ok (.aload_n 0, 1) := by decide +kernel
theorem dX6_leastNow_14 : decode cX6_leastNow 14 = .ok (.aload_n 0, 1) := by decide +kernel
theorem dX6_leastNow_15 : decode cX6_leastNow 15 = .ok (.getfield 83, 3) := by decide +kernel
theorem dX6_leastNow_18 : decode cX6_leastNow 18 = .ok (.invokevirtual 163, 3) := by decide +kernel
theorem dX6_leastNow_21 : decode cX6_leastNow 21 = .ok (.iconst (-1), 1) := by decide +kernel
theorem dX6_leastNow_22 : decode cX6_leastNow 22 = .ok (.if_icmp .ne 12, 3) := by decide +kernel
theorem dX6_leastNow_25 : decode cX6_leastNow 25 = .ok (.aload_n 0, 1) := by decide +kernel
theorem dX6_leastNow_26 : decode cX6_leastNow 26 = .ok (.aload_n 0, 1) := by decide +kernel
theorem dX6_leastNow_27 : decode cX6_leastNow 27 = .ok (.getfield 83, 3) := by decide +kernel
theorem dX6_leastNow_30 : decode cX6_leastNow 30 = .ok (.invokevirtual 163, 3) := by decide +kernel
theorem dX6_leastNow_33 : decode cX6_leastNow 33 = .ok (.ireturn, 1) := by decide +kernel
theorem dX6_leastNow_34 : decode cX6_leastNow 34 = .ok (.iconst 0, 1) := by decide +kernel
theorem dX6_leastNow_35 : decode cX6_leastNow 35 = .ok (.istore_n 2, 1) := by decide +kernel
theorem dX6_leastNow_36 : decode cX6_leastNow 36 = .ok (.aload_n 0, 1) := by decide +kernel
theorem dX6_leastNow_37 : decode cX6_leastNow 37 = .ok (.getfield 83, 3) := by decide +kernel
theorem dX6_leastNow_40 : decode cX6_leastNow 40 = .ok (.istore_n 3, 1) := by decide +kernel
theorem dX6_leastNow_41 : decode cX6_leastNow 41 = .ok (.aload_n 0, 1) := by decide +kernel
theorem dX6_leastNow_42 : decode cX6_leastNow 42 = .ok (.iload_n 3, 1) := by decide +kernel
theorem dX6_leastNow_43 : decode cX6_leastNow 43 = .ok (.invokevirtual 169, 3) := by decide +kernel
theorem dX6_leastNow_46 : decode cX6_leastNow 46 = .ok (.istore 4, 2) := by decide +kernel
theorem dX6_leastNow_48 : decode cX6_leastNow 48 = .ok (.iload 4, 2) := by decide +kernel
theorem dX6_leastNow_50 : decode cX6_leastNow 50 = .ok (.istore 5, 2) := by decide +kernel
theorem dX6_leastNow_52 : decode cX6_leastNow 52 = .ok (.iload 5, 2) := by decide +kernel
theorem dX6_leastNow_54 : decode cX6_leastNow 54 = .ok (.iconst (-1), 1) := by decide +kernel
theorem dX6_leastNow_55 : decode cX6_leastNow 55 = .ok (.if_icmp .eq 23, 3) := by decide +kernel
theorem dX6_leastNow_58 : decode cX6_leastNow 58 = .ok (.iload_n 3, 1) := by decide +kernel
theorem dX6_leastNow_59 : decode cX6_leastNow 59 = .ok (.iload 5, 2) := by decide +kernel
theorem dX6_leastNow_61 : decode cX6_leastNow 61 = .ok (.invokestatic 146, 3) := by decide +kernel
theorem dX6_leastNow_64 : decode cX6_leastNow 64 = .ok (.istore_n 3, 1) := by decide +kernel
theorem dX6_leastNow_65 : decode cX6_leastNow 65 = .ok (.iinc 2 1, 3) := by decide +kernel
theorem dX6_leastNow_68 : decode cX6_leastNow 68 = .ok (.aload_n 0, 1) := by decide +kernel
theorem dX6_leastNow_69 : decode cX6_leastNow 69 = .ok (.iload_n 3, 1) := by decide +kernel
theorem dX6_leastNow_70 : decode cX6_leastNow 70 = .ok (.invokevirtual 169, 3) := by decide +kernel
theorem dX6_leastNow_73 : decode cX6_leastNow 73 = .ok (.istore 5, 2) := by decide +kernel
theorem dX6_leastNow_75 : decode cX6_leastNow 75 = .ok (.goto (-23), 3) := by decide +kernel
theorem dX6_leastNow_78 : decode cX6_leastNow 78 = .ok (.iload_n 1, 1) := by decide +kernel
theorem dX6_leastNow_79 : decode cX6_leastNow 79 = .ok (.iconst 1, 1) := by decide +kernel
theorem dX6_leastNow_80 : decode cX6_leastNow 80 = .ok (.if_icmp .ne 8, 3) := by decide +kernel
theorem dX6_leastNow_83 : decode cX6_leastNow 83 = .ok (.iload 4, 2) := by decide +kernel
theorem dX6_leastNow_85 : decode cX6_leastNow 85 = .ok (.goto 4, 3) := by decide +kernel
theorem dX6_leastNow_88 : decode cX6_leastNow 88 = .ok (.iload_n 2, 1) := by decide +kernel
theorem dX6_leastNow_89 : decode cX6_leastNow 89 = .ok (.ireturn, 1) := by decide +kernel
theorem dX6_least_0 : decode cX6_least 0 = .ok (.iload_n 1, 1) := by decide +kernel
theorem dX6_least_1 : decode cX6_least 1 = .ok (.iconst 0, 1) := by decide +kernel
theorem dX6_least_2 : decode cX6_least 2 = .ok (.iconst 2, 1) := by decide +kernel
theorem dX6_least_3 : decode cX6_least 3 = .ok (.invokestatic 47, 3) := by decide +kernel
theorem dX6_least_6 : decode cX6_least 6 = .ok (.ifCond .ne 6, 3) := by decide +kernel
theorem dX6_least_9 : decode cX6_least 9 = .ok (.bipush (-102), 2) := by decide +kernel
theorem dX6_least_11 : decode cX6_least 11 = .ok (.ireturn, 1) := by decide +kernel
theorem dX6_least_12 : decode cX6_least 12 = .ok (.aload_n 0, 1) := by decide +kernel
theorem dX6_least_13 : decode cX6_least 13 = .ok (.getfield 95, 3) := by decide +kernel
theorem dX6_least_16 : decode cX6_least 16 = .ok (.ifCond .ne 8, 3) := by decide +kernel
theorem dX6_least_19 : decode cX6_least 19 = .ok (.bipush (-103), 2) := by decide +kernel
theorem dX6_least_21 : decode cX6_least 21 = .ok (.goto 8, 3) := by decide +kernel
theorem dX6_least_24 : decode cX6_least 24 = .ok (.aload_n 0, 1) := by decide +kernel
theorem dX6_least_25 : decode cX6_least 25 = .ok (.iload_n 1, 1) := by decide +kernel
theorem dX6_least_26 : decode cX6_least 26 = .ok (.invokevirtual 172, 3) := by decide +kernel
theorem dX6_least_29 : decode cX6_least 29 = .ok (.ireturn, 1) := by decide +kernel
theorem dX6_reachNow_0 : decode cX6_reachNow 0 = .ok (.aload_n 0, 1) := by decide +kernel
theorem dX6_reachNow_1 : decode cX6_reachNow 1 = .ok (.aload_n 0, 1) := by decide +kernel
theorem dX6_reachNow_2 : decode cX6_reachNow 2 = .ok (.getfield 83, 3) := by decide +kernel
theorem dX6_reachNow_5 : decode cX6_reachNow 5 = .ok (.invokevirtual 166, 3) := by decide +kernel
theorem dX6_reachNow_8 : decode cX6_reachNow 8 = .ok (.istore_n 2, 1) := by decide +kernel
theorem dX6_reachNow_9 : decode cX6_reachNow 9 = .ok (.iconst 0, 1) := by decide +kernel
theorem dX6_reachNow_10 : decode cX6_reachNow 10 = .ok (.istore_n 3, 1) := by decide +kernel
theorem dX6_reachNow_11 : decode cX6_reachNow 11 = .ok (.iconst 0, 1) := by decide +kernel
theorem dX6_reachNow_12 : decode cX6_reachNow 12 = .ok (.istore 4, 2) := by decide +kernel
theorem dX6_reachNow_14 : decode cX6_reachNow 14 = .ok (.iload 4, 2) := by decide +kernel
theorem dX6_reachNow_16 : decode cX6_reachNow 16 = .ok (.sipush 720, 3) := by decide +kernel
theorem dX6_reachNow_19 : decode cX6_reachNow 19 = .ok (.if_icmp .ge 29, 3) := by decide +kernel
theorem dX6_reachNow_22 : decode cX6_reachNow 22 = .ok (.iload_n 3, 1) := by decide +kernel
theorem dX6_reachNow_23 : decode cX6_reachNow 23 = .ok (.aload_n 0, 1) := by decide +kernel
theorem dX6_reachNow_24 : decode cX6_reachNow 24 = .ok (.getfield 26, 3) := by decide +kernel
theorem dX6_reachNow_27 : decode cX6_reachNow 27 = .ok (.iload 4, 2) := by decide +kernel
theorem dX6_reachNow_29 : decode cX6_reachNow 29 = .ok (.iaload, 1) := by decide +kernel
theorem dX6_reachNow_30 : decode cX6_reachNow 30 = .ok (.ldc 155, 2) := by decide +kernel
theorem dX6_reachNow_32 : decode cX6_reachNow 32 = .ok (.if_icmp .ge 7, 3) := by decide +kernel
theorem dX6_reachNow_35 : decode cX6_reachNow 35 = .ok (.iconst 1, 1) := by decide +kernel
theorem dX6_reachNow_36 : decode cX6_reachNow 36 = .ok (.goto 4, 3) := by decide +kernel
theorem dX6_reachNow_39 : decode cX6_reachNow 39 = .ok (.iconst 0, 1) := by decide +kernel
theorem dX6_reachNow_40 : decode cX6_reachNow 40 = .ok (.iadd, 1) := by decide +kernel
theorem dX6_reachNow_41 : decode cX6_reachNow 41 = .ok (.istore_n 3, 1) := by decide +kernel
theorem dX6_reachNow_42 : decode cX6_reachNow 42 = .ok (.iinc 4 1, 3) := by decide +kernel
theorem dX6_reachNow_45 : decode cX6_reachNow 45 = .ok (.goto (-31), 3) := by decide +kernel
theorem dX6_reachNow_48 : decode cX6_reachNow 48 = .ok (.iload_n 1, 1) := by decide +kernel
theorem dX6_reachNow_49 : decode cX6_reachNow 49 = .ok (.ifCond .ne 7, 3) := by decide +kernel
theorem dX6_reachNow_52 : decode cX6_reachNow 52 = .ok (.iload_n 3, 1) := by decide +kernel
theorem dX6_reachNow_53 : decode cX6_reachNow 53 = .ok (.goto 4, 3) := by decide +kernel
theorem dX6_reachNow_56 : decode cX6_reachNow 56 = .ok (.iload_n 2, 1) := by decide +kernel
theorem dX6_reachNow_57 : decode cX6_reachNow 57 = .ok (.ireturn, 1) := by decide +kernel
theorem dX6_reach_0 : decode cX6_reach 0 = .ok (.iload_n 1, 1) := by decide +kernel
theorem dX6_reach_1 : decode cX6_reach 1 = .ok (.iconst 0, 1) := by decide +kernel
theorem dX6_reach_2 : decode cX6_reach 2 = .ok (.iconst 1, 1) := by decide +kernel
theorem dX6_reach_3 : decode cX6_reach 3 = .ok (.invokestatic 47, 3) := by decide +kernel
theorem dX6_reach_6 : decode cX6_reach 6 = .ok (.ifCond .ne 6, 3) := by decide +kernel
theorem dX6_reach_9 : decode cX6_reach 9 = .ok (.bipush (-102), 2) := by decide +kernel
theorem dX6_reach_11 : decode cX6_reach 11 = .ok (.ireturn, 1) := by decide +kernel
theorem dX6_reach_12 : decode cX6_reach 12 = .ok (.aload_n 0, 1) := by decide +kernel
theorem dX6_reach_13 : decode cX6_reach 13 = .ok (.getfield 95, 3) := by decide +kernel
theorem dX6_reach_16 : decode cX6_reach 16 = .ok (.ifCond .ne 8, 3) := by decide +kernel
theorem dX6_reach_19 : decode cX6_reach 19 = .ok (.bipush (-103), 2) := by decide +kernel
theorem dX6_reach_21 : decode cX6_reach 21 = .ok (.goto 8, 3) := by decide +kernel
theorem dX6_reach_24 : decode cX6_reach 24 = .ok (.aload_n 0, 1) := by decide +kernel
theorem dX6_reach_25 : decode cX6_reach 25 = .ok (.iload_n 1, 1) := by decide +kernel
theorem dX6_reach_26 : decode cX6_reach 26 = .ok (.invokevirtual 175, 3) := by decide +kernel
theorem dX6_reach_29 : decode cX6_reach 29 = .ok (.ireturn, 1) := by decide +kernel
theorem dX6_homeNow_0 : decode cX6_homeNow 0 = .ok (.aload_n 0, 1) := by decide +kernel
theorem dX6_homeNow_1 : decode cX6_homeNow 1 = .ok (.aload_n 0, 1) := by decide +kernel
theorem dX6_homeNow_2 : decode cX6_homeNow 2 = .ok (.getfield 83, 3) := by decide +kernel
theorem dX6_homeNow_5 : decode cX6_homeNow 5 = .ok (.invokevirtual 166, 3) := by decide +kernel
theorem dX6_homeNow_8 : decode cX6_homeNow 8 = .ok (.pop, 1) := by decide +kernel
theorem dX6_homeNow_9 : decode cX6_homeNow 9 = .ok (.ldc 155, 2) := by decide +kernel
theorem dX6_homeNow_11 : decode cX6_homeNow 11 = .ok (.istore_n 3, 1) := by decide +kernel
theorem dX6_homeNow_12 : decode cX6_homeNow 12 = .ok (.iconst 0, 1) := by decide +kernel
theorem dX6_homeNow_13 : decode cX6_homeNow 13 = .ok (.istore 4, 2) := by decide +kernel
theorem dX6_homeNow_15 : decode cX6_homeNow 15 = .ok (.iload 4, 2) := by decide +kernel
theorem dX6_homeNow_17 : decode cX6_homeNow 17 = .ok (.sipush 720, 3) := by decide +kernel
theorem dX6_homeNow_20 : decode cX6_homeNow 20 = .ok (.if_icmp .ge 57, 3) := by decide +kernel
theorem dX6_homeNow_23 : decode cX6_homeNow 23 = .ok (.aload_n 0, 1) := by decide +kernel
theorem dX6_homeNow_24 : decode cX6_homeNow 24 = .ok (.getfield 26, 3) := by decide +kernel
theorem dX6_homeNow_27 : decode cX6_homeNow 27 = .ok (.iload 4, 2) := by decide +kernel
theorem dX6_homeNow_29 : decode cX6_homeNow 29 = .ok (.iaload, 1) := by decide +kernel
theorem dX6_homeNow_30 : decode cX6_homeNow 30 = .ok (.iload_n 3, 1) := by decide +kernel
theorem dX6_homeNow_31 : decode cX6_homeNow 31 = .ok (.if_icmp .ge 20, 3) := by decide +kernel
theorem dX6_homeNow_34 : decode cX6_homeNow 34 = .ok (.iload 4, 2) := by decide +kernel
theorem dX6_homeNow_36 : decode cX6_homeNow 36 = .ok (.invokestatic 156, 3) := by decide +kernel
theorem dX6_homeNow_39 : decode cX6_homeNow 39 = .ok (.iload_n 2, 1) := by decide +kernel
theorem dX6_homeNow_40 : decode cX6_homeNow 40 = .ok (.invokestatic 105, 3) := by decide +kernel
theorem dX6_homeNow_43 : decode cX6_homeNow 43 = .ok (.iload_n 1, 1) := by decide +kernel
theorem dX6_homeNow_44 : decode cX6_homeNow 44 = .ok (.if_icmp .ne 7, 3) := by decide +kernel
theorem dX6_homeNow_47 : decode cX6_homeNow 47 = .ok (.iconst 1, 1) := by decide +kernel
theorem dX6_homeNow_48 : decode cX6_homeNow 48 = .ok (.goto 4, 3) := by decide +kernel
theorem dX6_homeNow_51 : decode cX6_homeNow 51 = .ok (.iconst 0, 1) := by decide +kernel
theorem dX6_homeNow_52 : decode cX6_homeNow 52 = .ok (.istore 5, 2) := by decide +kernel
theorem dX6_homeNow_54 : decode cX6_homeNow 54 = .ok (.iload 5, 2) := by decide +kernel
theorem dX6_homeNow_56 : decode cX6_homeNow 56 = .ok (.ifCond .eq 13, 3) := by decide +kernel
theorem dX6_homeNow_59 : decode cX6_homeNow 59 = .ok (.aload_n 0, 1) := by decide +kernel
theorem dX6_homeNow_60 : decode cX6_homeNow 60 = .ok (.getfield 26, 3) := by decide +kernel
theorem dX6_homeNow_63 : decode cX6_homeNow 63 = .ok (.iload 4, 2) := by decide +kernel
theorem dX6_homeNow_65 : decode cX6_homeNow 65 = .ok (.iaload, 1) := by decide +kernel
theorem dX6_homeNow_66 : decode cX6_homeNow 66 = .ok (.goto 4, 3) := by decide +kernel
theorem dX6_homeNow_69 : decode cX6_homeNow 69 = .ok (.iload_n 3, 1) := by decide +kernel
theorem dX6_homeNow_70 : decode cX6_homeNow 70 = .ok (.istore_n 3, 1) := by decide +kernel
theorem dX6_homeNow_71 : decode cX6_homeNow 71 = .ok (.iinc 4 1, 3) := by decide +kernel
theorem dX6_homeNow_74 : decode cX6_homeNow 74 = .ok (.goto (-59), 3) := by decide +kernel
theorem dX6_homeNow_77 : decode cX6_homeNow 77 = .ok (.iload_n 3, 1) := by decide +kernel
theorem dX6_homeNow_78 : decode cX6_homeNow 78 = .ok (.ldc 155, 2) := by decide +kernel
theorem dX6_homeNow_80 : decode cX6_homeNow 80 = .ok (.if_icmp .ne 7, 3) := by decide +kernel
theorem dX6_homeNow_83 : decode cX6_homeNow 83 = .ok (.iconst (-1), 1) := by decide +kernel
theorem dX6_homeNow_84 : decode cX6_homeNow 84 = .ok (.goto 4, 3) := by decide +kernel
theorem dX6_homeNow_87 : decode cX6_homeNow 87 = .ok (.iload_n 3, 1) := by decide +kernel
theorem dX6_homeNow_88 : decode cX6_homeNow 88 = .ok (.ireturn, 1) := by decide +kernel
theorem dX6_home_0 : decode cX6_home 0 = .ok (.aload_n 0, 1) := by decide +kernel
theorem dX6_home_1 : decode cX6_home 1 = .ok (.iload_n 1, 1) := by decide +kernel
theorem dX6_home_2 : decode cX6_home 2 = .ok (.invokevirtual 133, 3) := by decide +kernel
theorem dX6_home_5 : decode cX6_home 5 = .ok (.ifCond .eq 20, 3) := by decide +kernel
theorem dX6_home_8 : decode cX6_home 8 = .ok (.aload_n 0, 1) := by decide +kernel
theorem dX6_home_9 : decode cX6_home 9 = .ok (.iload_n 2, 1) := by decide +kernel
theorem dX6_home_10 : decode cX6_home 10 = .ok (.invokevirtual 140, 3) := by decide +kernel
theorem dX6_home_13 : decode cX6_home 13 = .ok (.ifCond .eq 12, 3) := by decide +kernel
theorem dX6_home_16 : decode cX6_home 16 = .ok (.aload_n 0, 1) := by decide +kernel
theorem dX6_home_17 : decode cX6_home 17 = .ok (.iload_n 1, 1) := by decide +kernel
theorem dX6_home_18 : decode cX6_home 18 = .ok (.iload_n 2, 1) := by decide +kernel
theorem dX6_home_19 : decode cX6_home 19 = .ok (.invokevirtual 130, 3) := by decide +kernel
theorem dX6_home_22 : decode cX6_home 22 = .ok (.goto 5, 3) := by decide +kernel
theorem dX6_home_25 : decode cX6_home 25 = .ok (.bipush (-101), 2) := by decide +kernel
theorem dX6_home_27 : decode cX6_home 27 = .ok (.ireturn, 1) := by decide +kernel
theorem dX6_swapsNow_0 : decode cX6_swapsNow 0 = .ok (.aload_n 0, 1) := by decide +kernel
theorem dX6_swapsNow_1 : decode cX6_swapsNow 1 = .ok (.getfield 83, 3) := by decide +kernel
theorem dX6_swapsNow_4 : decode cX6_swapsNow 4 = .ok (.istore_n 1, 1) := by decide +kernel
theorem dX6_swapsNow_5 : decode cX6_swapsNow 5 = .ok (.iconst 0, 1) := by decide +kernel
theorem dX6_swapsNow_6 : decode cX6_swapsNow 6 = .ok (.istore_n 2, 1) := by decide +kernel
theorem dX6_swapsNow_7 : decode cX6_swapsNow 7 = .ok (.iconst 0, 1) := by decide +kernel
theorem dX6_swapsNow_8 : decode cX6_swapsNow 8 = .ok (.istore_n 3, 1) := by decide +kernel
theorem dX6_swapsNow_9 : decode cX6_swapsNow 9 = .ok (.iload_n 3, 1) := by decide +kernel
theorem dX6_swapsNow_10 : decode cX6_swapsNow 10 = .ok (.bipush 6, 2) := by decide +kernel
theorem dX6_swapsNow_12 : decode cX6_swapsNow 12 = .ok (.if_icmp .ge 55, 3) := by decide +kernel
theorem dX6_swapsNow_15 : decode cX6_swapsNow 15 = .ok (.iload_n 1, 1) := by decide +kernel
theorem dX6_swapsNow_16 : decode cX6_swapsNow 16 = .ok (.aload_n 0, 1) := by decide +kernel
theorem dX6_swapsNow_17 : decode cX6_swapsNow 17 = .ok (.getfield 86, 3) := by decide +kernel
theorem dX6_swapsNow_20 : decode cX6_swapsNow 20 = .ok (.iload_n 3, 1) := by decide +kernel
theorem dX6_swapsNow_21 : decode cX6_swapsNow 21 = .ok (.invokestatic 105, 3) := by decide +kernel
theorem dX6_swapsNow_24 : decode cX6_swapsNow 24 = .ok (.invokestatic 101, 3) := by decide +kernel
theorem dX6_swapsNow_27 : decode cX6_swapsNow 27 = .ok (.istore 4, 2) := by decide +kernel
theorem dX6_swapsNow_29 : decode cX6_swapsNow 29 = .ok (.iload_n 2, 1) := by decide +kernel
theorem dX6_swapsNow_30 : decode cX6_swapsNow 30 = .ok (.iload 4, 2) := by decide +kernel
theorem dX6_swapsNow_32 : decode cX6_swapsNow 32 = .ok (.iload_n 3, 1) := by decide +kernel
theorem dX6_swapsNow_33 : decode cX6_swapsNow 33 = .ok (.if_icmp .ne 7, 3) := by decide +kernel
theorem dX6_swapsNow_36 : decode cX6_swapsNow 36 = .ok (.iconst 0, 1) := by decide +kernel
theorem dX6_swapsNow_37 : decode cX6_swapsNow 37 = .ok (.goto 4, 3) := by decide +kernel
theorem dX6_swapsNow_40 : decode cX6_swapsNow 40 = .ok (.iconst 1, 1) := by decide +kernel
theorem dX6_swapsNow_41 : decode cX6_swapsNow 41 = .ok (.iadd, 1) := by decide +kernel
theorem dX6_swapsNow_42 : decode cX6_swapsNow 42 = .ok (.istore_n 2, 1) := by decide +kernel
theorem dX6_swapsNow_43 : decode cX6_swapsNow 43 = .ok (.iload 4, 2) := by decide +kernel
theorem dX6_swapsNow_45 : decode cX6_swapsNow 45 = .ok (.iload_n 3, 1) := by decide +kernel
theorem dX6_swapsNow_46 : decode cX6_swapsNow 46 = .ok (.if_icmp .ne 7, 3) := by decide +kernel
theorem dX6_swapsNow_49 : decode cX6_swapsNow 49 = .ok (.iload_n 1, 1) := by decide +kernel
theorem dX6_swapsNow_50 : decode cX6_swapsNow 50 = .ok (.goto 10, 3) := by decide +kernel
theorem dX6_swapsNow_53 : decode cX6_swapsNow 53 = .ok (.iload_n 1, 1) := by decide +kernel
theorem dX6_swapsNow_54 : decode cX6_swapsNow 54 = .ok (.iload_n 3, 1) := by decide +kernel
theorem dX6_swapsNow_55 : decode cX6_swapsNow 55 = .ok (.iload 4, 2) := by decide +kernel
theorem dX6_swapsNow_57 : decode cX6_swapsNow 57 = .ok (.invokestatic 117, 3) := by decide +kernel
theorem dX6_swapsNow_60 : decode cX6_swapsNow 60 = .ok (.istore_n 1, 1) := by decide +kernel
theorem dX6_swapsNow_61 : decode cX6_swapsNow 61 = .ok (.iinc 3 1, 3) := by decide +kernel
theorem dX6_swapsNow_64 : decode cX6_swapsNow 64 = .ok (.goto (-55), 3) := by decide +kernel
theorem dX6_swapsNow_67 : decode cX6_swapsNow 67 = .ok (.iload_n 2, 1) := by decide +kernel
theorem dX6_swapsNow_68 : decode cX6_swapsNow 68 = .ok (.ireturn, 1) := by decide +kernel
theorem dX6_swaps_0 : decode cX6_swaps 0 = .ok (.aload_n 0, 1) := by decide +kernel
theorem dX6_swaps_1 : decode cX6_swaps 1 = .ok (.getfield 95, 3) := by decide +kernel
theorem dX6_swaps_4 : decode cX6_swaps 4 = .ok (.ifCond .ne 8, 3) := by decide +kernel
theorem dX6_swaps_7 : decode cX6_swaps 7 = .ok (.bipush (-103), 2) := by decide +kernel
theorem dX6_swaps_9 : decode cX6_swaps 9 = .ok (.goto 7, 3) := by decide +kernel
theorem dX6_swaps_12 : decode cX6_swaps 12 = .ok (.aload_n 0, 1) := by decide +kernel
theorem dX6_swaps_13 : decode cX6_swaps 13 = .ok (.invokevirtual 178, 3) := by decide +kernel
theorem dX6_swaps_16 : decode cX6_swaps 16 = .ok (.ireturn, 1) := by decide +kernel
theorem dX6_cheapNow_0 : decode cX6_cheapNow 0 = .ok (.aload_n 0, 1) := by decide +kernel
theorem dX6_cheapNow_1 : decode cX6_cheapNow 1 = .ok (.aload_n 0, 1) := by decide +kernel
theorem dX6_cheapNow_2 : decode cX6_cheapNow 2 = .ok (.getfield 86, 3) := by decide +kernel
theorem dX6_cheapNow_5 : decode cX6_cheapNow 5 = .ok (.invokevirtual 166, 3) := by decide +kernel
theorem dX6_cheapNow_8 : decode cX6_cheapNow 8 = .ok (.pop, 1) := by decide +kernel
theorem dX6_cheapNow_9 : decode cX6_cheapNow 9 = .ok (.iconst (-1), 1) := by decide +kernel
theorem dX6_cheapNow_10 : decode cX6_cheapNow 10 = .ok (.istore_n 2, 1) := by decide +kernel
theorem dX6_cheapNow_11 : decode cX6_cheapNow 11 = .ok (.ldc 155, 2) := by decide +kernel
theorem dX6_cheapNow_13 : decode cX6_cheapNow 13 = .ok (.istore_n 3, 1) := by decide +kernel
theorem dX6_cheapNow_14 : decode cX6_cheapNow 14 = .ok (.iconst 0, 1) := by decide +kernel
theorem dX6_cheapNow_15 : decode cX6_cheapNow 15 = .ok (.istore 4, 2) := by decide +kernel
theorem dX6_cheapNow_17 : decode cX6_cheapNow 17 = .ok (.iload 4, 2) := by decide +kernel
theorem dX6_cheapNow_19 : decode cX6_cheapNow 19 = .ok (.bipush 6, 2) := by decide +kernel
theorem dX6_cheapNow_21 : decode cX6_cheapNow 21 = .ok (.if_icmp .ge 81, 3) := by decide +kernel
theorem dX6_cheapNow_24 : decode cX6_cheapNow 24 = .ok (.iload 4, 2) := by decide +kernel
theorem dX6_cheapNow_26 : decode cX6_cheapNow 26 = .ok (.iconst 1, 1) := by decide +kernel
theorem dX6_cheapNow_27 : decode cX6_cheapNow 27 = .ok (.iadd, 1) := by decide +kernel
theorem dX6_cheapNow_28 : decode cX6_cheapNow 28 = .ok (.istore 5, 2) := by decide +kernel
theorem dX6_cheapNow_30 : decode cX6_cheapNow 30 = .ok (.iload 5, 2) := by decide +kernel
theorem dX6_cheapNow_32 : decode cX6_cheapNow 32 = .ok (.bipush 6, 2) := by decide +kernel
theorem dX6_cheapNow_34 : decode cX6_cheapNow 34 = .ok (.if_icmp .ge 62, 3) := by decide +kernel
theorem dX6_cheapNow_37 : decode cX6_cheapNow 37 = .ok (.aload_n 0, 1) := by decide +kernel
theorem dX6_cheapNow_38 : decode cX6_cheapNow 38 = .ok (.getfield 26, 3) := by decide +kernel
theorem dX6_cheapNow_41 : decode cX6_cheapNow 41 = .ok (.aload_n 0, 1) := by decide +kernel
theorem dX6_cheapNow_42 : decode cX6_cheapNow 42 = .ok (.getfield 83, 3) := by decide +kernel
theorem dX6_cheapNow_45 : decode cX6_cheapNow 45 = .ok (.iload 4, 2) := by decide +kernel
theorem dX6_cheapNow_47 : decode cX6_cheapNow 47 = .ok (.iload 5, 2) := by decide +kernel
theorem dX6_cheapNow_49 : decode cX6_cheapNow 49 = .ok (.invokestatic 117, 3) := by decide +kernel
theorem dX6_cheapNow_52 : decode cX6_cheapNow 52 = .ok (.invokestatic 152, 3) := by decide +kernel
theorem dX6_cheapNow_55 : decode cX6_cheapNow 55 = .ok (.iaload, 1) := by decide +kernel
theorem dX6_cheapNow_56 : decode cX6_cheapNow 56 = .ok (.istore 6, 2) := by decide +kernel
theorem dX6_cheapNow_58 : decode cX6_cheapNow 58 = .ok (.iload 6, 2) := by decide +kernel
theorem dX6_cheapNow_60 : decode cX6_cheapNow 60 = .ok (.iload_n 3, 1) := by decide +kernel
theorem dX6_cheapNow_61 : decode cX6_cheapNow 61 = .ok (.if_icmp .ge 14, 3) := by decide +kernel
theorem dX6_cheapNow_64 : decode cX6_cheapNow 64 = .ok (.bipush 10, 2) := by decide +kernel
theorem dX6_cheapNow_66 : decode cX6_cheapNow 66 = .ok (.iload 4, 2) := by decide +kernel
theorem dX6_cheapNow_68 : decode cX6_cheapNow 68 = .ok (.imul, 1) := by decide +kernel
theorem dX6_cheapNow_69 : decode cX6_cheapNow 69 = .ok (.iload 5, 2) := by decide +kernel
theorem dX6_cheapNow_71 : decode cX6_cheapNow 71 = .ok (.iadd, 1) := by decide +kernel
theorem dX6_cheapNow_72 : decode cX6_cheapNow 72 = .ok (.goto 4, 3) := by decide +kernel
theorem dX6_cheapNow_75 : decode cX6_cheapNow 75 = .ok (.iload_n 2, 1) := by decide +kernel
theorem dX6_cheapNow_76 : decode cX6_cheapNow 76 = .ok (.istore_n 2, 1) := by decide +kernel
theorem dX6_cheapNow_77 : decode cX6_cheapNow 77 = .ok (.iload 6, 2) := by decide +kernel
theorem dX6_cheapNow_79 : decode cX6_cheapNow 79 = .ok (.iload_n 3, 1) := by decide +kernel
theorem dX6_cheapNow_80 : decode cX6_cheapNow 80 = .ok (.if_icmp .ge 8, 3) := by decide +kernel
theorem dX6_cheapNow_83 : decode cX6_cheapNow 83 = .ok (.iload 6, 2) := by decide +kernel
theorem dX6_cheapNow_85 : decode cX6_cheapNow 85 = .ok (.goto 4, 3) := by decide +kernel
theorem dX6_cheapNow_88 : decode cX6_cheapNow 88 = .ok (.iload_n 3, 1) := by decide +kernel
theorem dX6_cheapNow_89 : decode cX6_cheapNow 89 = .ok (.istore_n 3, 1) := by decide +kernel
theorem dX6_cheapNow_90 : decode cX6_cheapNow 90 = .ok (.iinc 5 1, 3) := by decide +kernel
theorem dX6_cheapNow_93 : decode cX6_cheapNow 93 = .ok (.goto (-63), 3) := by decide +kernel
theorem dX6_cheapNow_96 : decode cX6_cheapNow 96 = .ok (.iinc 4 1, 3) := by decide +kernel
theorem dX6_cheapNow_99 : decode cX6_cheapNow 99 = .ok (.goto (-82), 3) := by decide +kernel
theorem dX6_cheapNow_102 : decode cX6_cheapNow 102 = .ok (.iload_n 2, 1) := by decide +kernel
theorem dX6_cheapNow_103 : decode cX6_cheapNow 103 = .ok (.iconst (-1), 1) := by decide +kernel
theorem dX6_cheapNow_104 : decode cX6_cheapNow 104 = .ok (.if_icmp .eq 7, 3) := by decide +kernel
theorem dX6_cheapNow_107 : decode cX6_cheapNow 107 = .ok (.iload_n 1, 1) := by decide +kernel
theorem dX6_cheapNow_108 : decode cX6_cheapNow 108 = .ok (.ifCond .ne 7, 3) := by decide +kernel
theorem dX6_cheapNow_111 : decode cX6_cheapNow 111 = .ok (.iload_n 2, 1) := by decide +kernel
theorem dX6_cheapNow_112 : decode cX6_cheapNow 112 = .ok (.goto 4, 3) := by decide +kernel
theorem dX6_cheapNow_115 : decode cX6_cheapNow 115 = .ok (.iload_n 3, 1) := by decide +kernel
theorem dX6_cheapNow_116 : decode cX6_cheapNow 116 = .ok (.ireturn, 1) := by decide +kernel
theorem dX6_cheap_0 : decode cX6_cheap 0 = .ok (.iload_n 1, 1) := by decide +kernel
theorem dX6_cheap_1 : decode cX6_cheap 1 = .ok (.iconst 0, 1) := by decide +kernel
theorem dX6_cheap_2 : decode cX6_cheap 2 = .ok (.iconst 1, 1) := by decide +kernel
theorem dX6_cheap_3 : decode cX6_cheap 3 = .ok (.invokestatic 47, 3) := by decide +kernel
theorem dX6_cheap_6 : decode cX6_cheap 6 = .ok (.ifCond .ne 6, 3) := by decide +kernel
theorem dX6_cheap_9 : decode cX6_cheap 9 = .ok (.bipush (-102), 2) := by decide +kernel
theorem dX6_cheap_11 : decode cX6_cheap 11 = .ok (.ireturn, 1) := by decide +kernel
theorem dX6_cheap_12 : decode cX6_cheap 12 = .ok (.aload_n 0, 1) := by decide +kernel
theorem dX6_cheap_13 : decode cX6_cheap 13 = .ok (.getfield 95, 3) := by decide +kernel
theorem dX6_cheap_16 : decode cX6_cheap 16 = .ok (.ifCond .eq 12, 3) := by decide +kernel
theorem dX6_cheap_19 : decode cX6_cheap 19 = .ok (.aload_n 0, 1) := by decide +kernel
theorem dX6_cheap_20 : decode cX6_cheap 20 = .ok (.getfield 181, 3) := by decide +kernel
theorem dX6_cheap_23 : decode cX6_cheap 23 = .ok (.bipush 20, 2) := by decide +kernel
theorem dX6_cheap_25 : decode cX6_cheap 25 = .ok (.if_icmp .ne 6, 3) := by decide +kernel
theorem dX6_cheap_28 : decode cX6_cheap 28 = .ok (.bipush (-103), 2) := by decide +kernel
theorem dX6_cheap_30 : decode cX6_cheap 30 = .ok (.ireturn, 1) := by decide +kernel
theorem dX6_cheap_31 : decode cX6_cheap 31 = .ok (.aload_n 0, 1) := by decide +kernel
theorem dX6_cheap_32 : decode cX6_cheap 32 = .ok (.dup, 1) := by decide +kernel
theorem dX6_cheap_33 : decode cX6_cheap 33 = .ok (.getfield 181, 3) := by decide +kernel
theorem dX6_cheap_36 : decode cX6_cheap 36 = .ok (.iconst 1, 1) := by decide +kernel
theorem dX6_cheap_37 : decode cX6_cheap 37 = .ok (.iadd, 1) := by decide +kernel
theorem dX6_cheap_38 : decode cX6_cheap 38 = .ok (.putfield 181, 3) := by decide +kernel
theorem dX6_cheap_41 : decode cX6_cheap 41 = .ok (.aload_n 0, 1) := by decide +kernel
theorem dX6_cheap_42 : decode cX6_cheap 42 = .ok (.iload_n 1, 1) := by decide +kernel
theorem dX6_cheap_43 : decode cX6_cheap 43 = .ok (.invokevirtual 184, 3) := by decide +kernel
theorem dX6_cheap_46 : decode cX6_cheap 46 = .ok (.ireturn, 1) := by decide +kernel
theorem dX6_drawPush_0 : decode cX6_drawPush 0 = .ok (.iload_n 1, 1) := by decide +kernel
theorem dX6_drawPush_1 : decode cX6_drawPush 1 = .ok (.invokestatic 156, 3) := by decide +kernel
theorem dX6_drawPush_4 : decode cX6_drawPush 4 = .ok (.istore_n 2, 1) := by decide +kernel
theorem dX6_drawPush_5 : decode cX6_drawPush 5 = .ok (.aload_n 0, 1) := by decide +kernel
theorem dX6_drawPush_6 : decode cX6_drawPush 6 = .ok (.iload_n 2, 1) := by decide +kernel
theorem dX6_drawPush_7 : decode cX6_drawPush 7 = .ok (.invokevirtual 149, 3) := by decide +kernel
theorem dX6_drawPush_10 : decode cX6_drawPush 10 = .ok (.istore_n 3, 1) := by decide +kernel
theorem dX6_drawPush_11 : decode cX6_drawPush 11 = .ok (.iload_n 3, 1) := by decide +kernel
theorem dX6_drawPush_12 : decode cX6_drawPush 12 = .ok (.invokestatic 187, 3) := by decide +kernel
theorem dX6_drawPush_15 : decode cX6_drawPush 15 = .ok (.istore 4, 2) := by decide +kernel
theorem dX6_drawPush_17 : decode cX6_drawPush 17 = .ok (.iload 4, 2) := by decide +kernel
theorem dX6_drawPush_19 : decode cX6_drawPush 19 = .ok (.ifCond .ne 21, 3) := by decide +kernel
theorem dX6_drawPush_22 : decode cX6_drawPush 22 = .ok (.aload_n 0, 1) := by decide +kernel
theorem dX6_drawPush_23 : decode cX6_drawPush 23 = .ok (.getfield 32, 3) := by decide +kernel
theorem dX6_drawPush_26 : decode cX6_drawPush 26 = .ok (.iload_n 1, 1) := by decide +kernel
theorem dX6_drawPush_27 : decode cX6_drawPush 27 = .ok (.dup2, 1) := by decide +kernel
theorem dX6_drawPush_28 : decode cX6_drawPush 28 = .ok (.iaload, 1) := by decide +kernel
theorem dX6_drawPush_29 : decode cX6_drawPush 29 = .ok (.bipush 6, 2) := by decide +kernel
theorem dX6_drawPush_31 : decode cX6_drawPush 31 = .ok (.aload_n 0, 1) := by decide +kernel
theorem dX6_drawPush_32 : decode cX6_drawPush 32 = .ok (.getfield 29, 3) := by decide +kernel
theorem dX6_drawPush_35 : decode cX6_drawPush 35 = .ok (.iload_n 1, 1) := by decide +kernel
theorem dX6_drawPush_36 : decode cX6_drawPush 36 = .ok (.iaload, 1) := by decide +kernel
theorem dX6_drawPush_37 : decode cX6_drawPush 37 = .ok (.imul, 1) := by decide +kernel
theorem dX6_drawPush_38 : decode cX6_drawPush 38 = .ok (.iadd, 1) := by decide +kernel
theorem dX6_drawPush_39 : decode cX6_drawPush 39 = .ok (.iastore, 1) := by decide +kernel
theorem dX6_drawPush_40 : decode cX6_drawPush 40 = .ok (.iconst 0, 1) := by decide +kernel
theorem dX6_drawPush_41 : decode cX6_drawPush 41 = .ok (.istore 5, 2) := by decide +kernel
theorem dX6_drawPush_43 : decode cX6_drawPush 43 = .ok (.iload 5, 2) := by decide +kernel
theorem dX6_drawPush_45 : decode cX6_drawPush 45 = .ok (.iconst 5, 1) := by decide +kernel
theorem dX6_drawPush_46 : decode cX6_drawPush 46 = .ok (.if_icmp .ge 52, 3) := by decide +kernel
theorem dX6_drawPush_49 : decode cX6_drawPush 49 = .ok (.iload 4, 2) := by decide +kernel
theorem dX6_drawPush_51 : decode cX6_drawPush 51 = .ok (.ifCond .le 47, 3) := by decide +kernel
theorem dX6_drawPush_54 : decode cX6_drawPush 54 = .ok (.iload_n 3, 1) := by decide +kernel
theorem dX6_drawPush_55 : decode cX6_drawPush 55 = .ok (.iload 5, 2) := by decide +kernel
theorem dX6_drawPush_57 : decode cX6_drawPush 57 = .ok (.invokestatic 62, 3) := by decide +kernel
theorem dX6_drawPush_60 : decode cX6_drawPush 60 = .ok (.ifCond .eq 32, 3) := by decide +kernel
theorem dX6_drawPush_63 : decode cX6_drawPush 63 = .ok (.aload_n 0, 1) := by decide +kernel
theorem dX6_drawPush_64 : decode cX6_drawPush 64 = .ok (.getfield 32, 3) := by decide +kernel
theorem dX6_drawPush_67 : decode cX6_drawPush 67 = .ok (.iload_n 2, 1) := by decide +kernel
theorem dX6_drawPush_68 : decode cX6_drawPush 68 = .ok (.iload 5, 2) := by decide +kernel
theorem dX6_drawPush_70 : decode cX6_drawPush 70 = .ok (.invokestatic 146, 3) := by decide +kernel
theorem dX6_drawPush_73 : decode cX6_drawPush 73 = .ok (.invokestatic 152, 3) := by decide +kernel
theorem dX6_drawPush_76 : decode cX6_drawPush 76 = .ok (.dup2, 1) := by decide +kernel
theorem dX6_drawPush_77 : decode cX6_drawPush 77 = .ok (.iaload, 1) := by decide +kernel
theorem dX6_drawPush_78 : decode cX6_drawPush 78 = .ok (.bipush 6, 2) := by decide +kernel
theorem dX6_drawPush_80 : decode cX6_drawPush 80 = .ok (.iload 4, 2) := by decide +kernel
theorem dX6_drawPush_82 : decode cX6_drawPush 82 = .ok (.idiv, 1) := by decide +kernel
theorem dX6_drawPush_83 : decode cX6_drawPush 83 = .ok (.aload_n 0, 1) := by decide +kernel
theorem dX6_drawPush_84 : decode cX6_drawPush 84 = .ok (.getfield 29, 3) := by decide +kernel
theorem dX6_drawPush_87 : decode cX6_drawPush 87 = .ok (.iload_n 1, 1) := by decide +kernel
theorem dX6_drawPush_88 : decode cX6_drawPush 88 = .ok (.iaload, 1) := by decide +kernel
theorem dX6_drawPush_89 : decode cX6_drawPush 89 = .ok (.imul, 1) := by decide +kernel
theorem dX6_drawPush_90 : decode cX6_drawPush 90 = .ok (.iadd, 1) := by decide +kernel
theorem dX6_drawPush_91 : decode cX6_drawPush 91 = .ok (.iastore, 1) := by decide +kernel
theorem dX6_drawPush_92 : decode cX6_drawPush 92 = .ok (.iinc 5 1, 3) := by decide +kernel
theorem dX6_drawPush_95 : decode cX6_drawPush 95 = .ok (.goto (-52), 3) := by decide +kernel
theorem dX6_drawPush_98 : decode cX6_drawPush 98 = .ok (.return_, 1) := by decide +kernel
theorem dX6_layParts_0 : decode cX6_layParts 0 = .ok (.iconst 0, 1) := by decide +kernel
theorem dX6_layParts_1 : decode cX6_layParts 1 = .ok (.istore_n 2, 1) := by decide +kernel
theorem dX6_layParts_2 : decode cX6_layParts 2 = .ok (.iload_n 2, 1) := by decide +kernel
theorem dX6_layParts_3 : decode cX6_layParts 3 = .ok (.sipush 720, 3) := by decide +kernel
theorem dX6_layParts_6 : decode cX6_layParts 6 = .ok (.if_icmp .ge 16, 3) := by decide +kernel
theorem dX6_layParts_9 : decode cX6_layParts 9 = .ok (.aload_n 0, 1) := by decide +kernel
theorem dX6_layParts_10 : decode cX6_layParts 10 = .ok (.getfield 29, 3) := by decide +kernel
theorem dX6_layParts_13 : decode cX6_layParts 13 = .ok (.iload_n 2, 1) := by decide +kernel
theorem dX6_layParts_14 : decode cX6_layParts 14 = .ok (.iconst 0, 1) := by decide +kernel
theorem dX6_layParts_15 : decode cX6_layParts 15 = .ok (.iastore, 1) := by decide +kernel
theorem dX6_layParts_16 : decode cX6_layParts 16 = .ok (.iinc 2 1, 3) := by decide +kernel
theorem dX6_layParts_19 : decode cX6_layParts 19 = .ok (.goto (-17), 3) := by decide +kernel
theorem dX6_layParts_22 : decode cX6_layParts 22 = .ok (.aload_n 0, 1) := by decide +kernel
theorem dX6_layParts_23 : decode cX6_layParts 23 = .ok (.getfield 29, 3) := by decide +kernel
theorem dX6_layParts_26 : decode cX6_layParts 26 = .ok (.aload_n 0, 1) := by decide +kernel
theorem dX6_layParts_27 : decode cX6_layParts 27 = .ok (.getfield 83, 3) := by decide +kernel
theorem dX6_layParts_30 : decode cX6_layParts 30 = .ok (.invokestatic 152, 3) := by decide +kernel
theorem dX6_layParts_33 : decode cX6_layParts 33 = .ok (.iconst 1, 1) := by decide +kernel
theorem dX6_layParts_34 : decode cX6_layParts 34 = .ok (.iastore, 1) := by decide +kernel
theorem dX6_layParts_35 : decode cX6_layParts 35 = .ok (.iconst 0, 1) := by decide +kernel
theorem dX6_layParts_36 : decode cX6_layParts 36 = .ok (.istore_n 2, 1) := by decide +kernel
theorem dX6_layParts_37 : decode cX6_layParts 37 = .ok (.iload_n 2, 1) := by decide +kernel
theorem dX6_layParts_38 : decode cX6_layParts 38 = .ok (.iload_n 1, 1) := by decide +kernel
theorem dX6_layParts_39 : decode cX6_layParts 39 = .ok (.if_icmp .ge 87, 3) := by decide +kernel
theorem dX6_layParts_42 : decode cX6_layParts 42 = .ok (.iconst 0, 1) := by decide +kernel
theorem dX6_layParts_43 : decode cX6_layParts 43 = .ok (.istore_n 3, 1) := by decide +kernel
theorem dX6_layParts_44 : decode cX6_layParts 44 = .ok (.iload_n 3, 1) := by decide +kernel
theorem dX6_layParts_45 : decode cX6_layParts 45 = .ok (.sipush 720, 3) := by decide +kernel
theorem dX6_layParts_48 : decode cX6_layParts 48 = .ok (.if_icmp .ge 16, 3) := by decide +kernel
theorem dX6_layParts_51 : decode cX6_layParts 51 = .ok (.aload_n 0, 1) := by decide +kernel
theorem dX6_layParts_52 : decode cX6_layParts 52 = .ok (.getfield 32, 3) := by decide +kernel
theorem dX6_layParts_55 : decode cX6_layParts 55 = .ok (.iload_n 3, 1) := by decide +kernel
theorem dX6_layParts_56 : decode cX6_layParts 56 = .ok (.iconst 0, 1) := by decide +kernel
theorem dX6_layParts_57 : decode cX6_layParts 57 = .ok (.iastore, 1) := by decide +kernel
theorem dX6_layParts_58 : decode cX6_layParts 58 = .ok (.iinc 3 1, 3) := by decide +kernel
theorem dX6_layParts_61 : decode cX6_layParts 61 = .ok (.goto (-17), 3) := by decide +kernel
theorem dX6_layParts_64 : decode cX6_layParts 64 = .ok (.iconst 0, 1) := by decide +kernel
theorem dX6_layParts_65 : decode cX6_layParts 65 = .ok (.istore_n 3, 1) := by decide +kernel
theorem dX6_layParts_66 : decode cX6_layParts 66 = .ok (.iload_n 3, 1) := by decide +kernel
theorem dX6_layParts_67 : decode cX6_layParts 67 = .ok (.sipush 720, 3) := by decide +kernel
theorem dX6_layParts_70 : decode cX6_layParts 70 = .ok (.if_icmp .ge 23, 3) := by decide +kernel
theorem dX6_layParts_73 : decode cX6_layParts 73 = .ok (.aload_n 0, 1) := by decide +kernel
theorem dX6_layParts_74 : decode cX6_layParts 74 = .ok (.getfield 29, 3) := by decide +kernel
theorem dX6_layParts_77 : decode cX6_layParts 77 = .ok (.iload_n 3, 1) := by decide +kernel
theorem dX6_layParts_78 : decode cX6_layParts 78 = .ok (.iaload, 1) := by decide +kernel
theorem dX6_layParts_79 : decode cX6_layParts 79 = .ok (.ifCond .le 8, 3) := by decide +kernel
theorem dX6_layParts_82 : decode cX6_layParts 82 = .ok (.aload_n 0, 1) := by decide +kernel
theorem dX6_layParts_83 : decode cX6_layParts 83 = .ok (.iload_n 3, 1) := by decide +kernel
theorem dX6_layParts_84 : decode cX6_layParts 84 = .ok (.invokevirtual 190, 3) := by decide +kernel
theorem dX6_layParts_87 : decode cX6_layParts 87 = .ok (.iinc 3 1, 3) := by decide +kernel
theorem dX6_layParts_90 : decode cX6_layParts 90 = .ok (.goto (-24), 3) := by decide +kernel
theorem dX6_layParts_93 : decode cX6_layParts 93 = .ok (.iconst 0, 1) := by decide +kernel
theorem dX6_layParts_94 : decode cX6_layParts 94 = .ok (.istore_n 3, 1) := by decide +kernel
theorem dX6_layParts_95 : decode cX6_layParts 95 = .ok (.iload_n 3, 1) := by decide +kernel
theorem dX6_layParts_96 : decode cX6_layParts 96 = .ok (.sipush 720, 3) := by decide +kernel
theorem dX6_layParts_99 : decode cX6_layParts 99 = .ok (.if_icmp .ge 21, 3) := by decide +kernel
theorem dX6_layParts_102 : decode cX6_layParts 102 = .ok (.aload_n 0, 1) := by decide +kernel
theorem dX6_layParts_103 : decode cX6_layParts 103 = .ok (.getfield 29, 3) := by decide +kernel
theorem dX6_layParts_106 : decode cX6_layParts 106 = .ok (.iload_n 3, 1) := by decide +kernel
theorem dX6_layParts_107 : decode cX6_layParts 107 = .ok (.aload_n 0, 1) := by decide +kernel
theorem dX6_layParts_108 : decode cX6_layParts 108 = .ok (.getfield 32, 3) := by decide +kernel
theorem dX6_layParts_111 : decode cX6_layParts 111 = .ok (.iload_n 3, 1) := by decide +kernel
theorem dX6_layParts_112 : decode cX6_layParts 112 = .ok (.iaload, 1) := by decide +kernel
theorem dX6_layParts_113 : decode cX6_layParts 113 = .ok (.iastore, 1) := by decide +kernel
theorem dX6_layParts_114 : decode cX6_layParts 114 = .ok (.iinc 3 1, 3) := by decide +kernel
theorem dX6_layParts_117 : decode cX6_layParts 117 = .ok (.goto (-22), 3) := by decide +kernel
theorem dX6_layParts_120 : decode cX6_layParts 120 = .ok (.iinc 2 1, 3) := by decide +kernel
theorem dX6_layParts_123 : decode cX6_layParts 123 = .ok (.goto (-86), 3) := by decide +kernel
theorem dX6_layParts_126 : decode cX6_layParts 126 = .ok (.return_, 1) := by decide +kernel
theorem dX6_oddsNow_0 : decode cX6_oddsNow 0 = .ok (.aload_n 0, 1) := by decide +kernel
theorem dX6_oddsNow_1 : decode cX6_oddsNow 1 = .ok (.iload_n 3, 1) := by decide +kernel
theorem dX6_oddsNow_2 : decode cX6_oddsNow 2 = .ok (.invokevirtual 194, 3) := by decide +kernel
theorem dX6_oddsNow_5 : decode cX6_oddsNow 5 = .ok (.iconst 0, 1) := by decide +kernel
theorem dX6_oddsNow_6 : decode cX6_oddsNow 6 = .ok (.istore 5, 2) := by decide +kernel
theorem dX6_oddsNow_8 : decode cX6_oddsNow 8 = .ok (.iconst 1, 1) := by decide +kernel
theorem dX6_oddsNow_9 : decode cX6_oddsNow 9 = .ok (.istore 6, 2) := by decide +kernel
theorem dX6_oddsNow_11 : decode cX6_oddsNow 11 = .ok (.iconst 0, 1) := by decide +kernel
theorem dX6_oddsNow_12 : decode cX6_oddsNow 12 = .ok (.istore 7, 2) := by decide +kernel
theorem dX6_oddsNow_14 : decode cX6_oddsNow 14 = .ok (.iload 7, 2) := by decide +kernel
theorem dX6_oddsNow_16 : decode cX6_oddsNow 16 = .ok (.iload_n 3, 1) := by decide +kernel
theorem dX6_oddsNow_17 : decode cX6_oddsNow 17 = .ok (.if_icmp .ge 16, 3) := by decide +kernel
theorem dX6_oddsNow_20 : decode cX6_oddsNow 20 = .ok (.iload 6, 2) := by decide +kernel
theorem dX6_oddsNow_22 : decode cX6_oddsNow 22 = .ok (.bipush 6, 2) := by decide +kernel
theorem dX6_oddsNow_24 : decode cX6_oddsNow 24 = .ok (.imul, 1) := by decide +kernel
theorem dX6_oddsNow_25 : decode cX6_oddsNow 25 = .ok (.istore 6, 2) := by decide +kernel
theorem dX6_oddsNow_27 : decode cX6_oddsNow 27 = .ok (.iinc 7 1, 3) := by decide +kernel
theorem dX6_oddsNow_30 : decode cX6_oddsNow 30 = .ok (.goto (-16), 3) := by decide +kernel
theorem dX6_oddsNow_33 : decode cX6_oddsNow 33 = .ok (.iconst 0, 1) := by decide +kernel
theorem dX6_oddsNow_34 : decode cX6_oddsNow 34 = .ok (.istore 7, 2) := by decide +kernel
theorem dX6_oddsNow_36 : decode cX6_oddsNow 36 = .ok (.iload 7, 2) := by decide +kernel
theorem dX6_oddsNow_38 : decode cX6_oddsNow 38 = .ok (.sipush 720, 3) := by decide +kernel
theorem dX6_oddsNow_41 : decode cX6_oddsNow 41 = .ok (.if_icmp .ge 48, 3) := by decide +kernel
theorem dX6_oddsNow_44 : decode cX6_oddsNow 44 = .ok (.iload 5, 2) := by decide +kernel
theorem dX6_oddsNow_46 : decode cX6_oddsNow 46 = .ok (.aload_n 0, 1) := by decide +kernel
theorem dX6_oddsNow_47 : decode cX6_oddsNow 47 = .ok (.getfield 29, 3) := by decide +kernel
theorem dX6_oddsNow_50 : decode cX6_oddsNow 50 = .ok (.iload 7, 2) := by decide +kernel
theorem dX6_oddsNow_52 : decode cX6_oddsNow 52 = .ok (.iaload, 1) := by decide +kernel
theorem dX6_oddsNow_53 : decode cX6_oddsNow 53 = .ok (.ifCond .le 26, 3) := by decide +kernel
theorem dX6_oddsNow_56 : decode cX6_oddsNow 56 = .ok (.iload 7, 2) := by decide +kernel
theorem dX6_oddsNow_58 : decode cX6_oddsNow 58 = .ok (.invokestatic 156, 3) := by decide +kernel
theorem dX6_oddsNow_61 : decode cX6_oddsNow 61 = .ok (.iload_n 2, 1) := by decide +kernel
theorem dX6_oddsNow_62 : decode cX6_oddsNow 62 = .ok (.invokestatic 105, 3) := by decide +kernel
theorem dX6_oddsNow_65 : decode cX6_oddsNow 65 = .ok (.iload_n 1, 1) := by decide +kernel
theorem dX6_oddsNow_66 : decode cX6_oddsNow 66 = .ok (.if_icmp .ne 13, 3) := by decide +kernel
theorem dX6_oddsNow_69 : decode cX6_oddsNow 69 = .ok (.aload_n 0, 1) := by decide +kernel
theorem dX6_oddsNow_70 : decode cX6_oddsNow 70 = .ok (.getfield 29, 3) := by decide +kernel
theorem dX6_oddsNow_73 : decode cX6_oddsNow 73 = .ok (.iload 7, 2) := by decide +kernel
theorem dX6_oddsNow_75 : decode cX6_oddsNow 75 = .ok (.iaload, 1) := by decide +kernel
theorem dX6_oddsNow_76 : decode cX6_oddsNow 76 = .ok (.goto 4, 3) := by decide +kernel
theorem dX6_oddsNow_79 : decode cX6_oddsNow 79 = .ok (.iconst 0, 1) := by decide +kernel
theorem dX6_oddsNow_80 : decode cX6_oddsNow 80 = .ok (.iadd, 1) := by decide +kernel
theorem dX6_oddsNow_81 : decode cX6_oddsNow 81 = .ok (.istore 5, 2) := by decide +kernel
theorem dX6_oddsNow_83 : decode cX6_oddsNow 83 = .ok (.iinc 7 1, 3) := by decide +kernel
theorem dX6_oddsNow_86 : decode cX6_oddsNow 86 = .ok (.goto (-50), 3) := by decide +kernel
theorem dX6_oddsNow_89 : decode cX6_oddsNow 89 = .ok (.iload 5, 2) := by decide +kernel
theorem dX6_oddsNow_91 : decode cX6_oddsNow 91 = .ok (.iload 6, 2) := by decide +kernel
theorem dX6_oddsNow_93 : decode cX6_oddsNow 93 = .ok (.invokestatic 197, 3) := by decide +kernel
theorem dX6_oddsNow_96 : decode cX6_oddsNow 96 = .ok (.istore 7, 2) := by decide +kernel
theorem dX6_oddsNow_98 : decode cX6_oddsNow 98 = .ok (.iload 4, 2) := by decide +kernel
theorem dX6_oddsNow_100 : decode cX6_oddsNow 100 = .ok (.ifCond .ne 11, 3) := by decide +kernel
theorem dX6_oddsNow_103 : decode cX6_oddsNow 103 = .ok (.iload 5, 2) := by decide +kernel
theorem dX6_oddsNow_105 : decode cX6_oddsNow 105 = .ok (.iload 7, 2) := by decide +kernel
theorem dX6_oddsNow_107 : decode cX6_oddsNow 107 = .ok (.idiv, 1) := by decide +kernel
theorem dX6_oddsNow_108 : decode cX6_oddsNow 108 = .ok (.goto 8, 3) := by decide +kernel
theorem dX6_oddsNow_111 : decode cX6_oddsNow 111 = .ok (.iload 6, 2) := by decide +kernel
theorem dX6_oddsNow_113 : decode cX6_oddsNow 113 = .ok (.iload 7, 2) := by decide +kernel
theorem dX6_oddsNow_115 : decode cX6_oddsNow 115 = .ok (.idiv, 1) := by decide +kernel
theorem dX6_oddsNow_116 : decode cX6_oddsNow 116 = .ok (.ireturn, 1) := by decide +kernel
theorem dX6_odds_0 : decode cX6_odds 0 = .ok (.aload_n 0, 1) := by decide +kernel
theorem dX6_odds_1 : decode cX6_odds 1 = .ok (.iload_n 1, 1) := by decide +kernel
theorem dX6_odds_2 : decode cX6_odds 2 = .ok (.invokevirtual 133, 3) := by decide +kernel
theorem dX6_odds_5 : decode cX6_odds 5 = .ok (.ifCond .eq 11, 3) := by decide +kernel
theorem dX6_odds_8 : decode cX6_odds 8 = .ok (.aload_n 0, 1) := by decide +kernel
theorem dX6_odds_9 : decode cX6_odds 9 = .ok (.iload_n 2, 1) := by decide +kernel
theorem dX6_odds_10 : decode cX6_odds 10 = .ok (.invokevirtual 140, 3) := by decide +kernel
theorem dX6_odds_13 : decode cX6_odds 13 = .ok (.ifCond .ne 6, 3) := by decide +kernel
theorem dX6_odds_16 : decode cX6_odds 16 = .ok (.bipush (-101), 2) := by decide +kernel
theorem dX6_odds_18 : decode cX6_odds 18 = .ok (.ireturn, 1) := by decide +kernel
theorem dX6_odds_19 : decode cX6_odds 19 = .ok (.iload_n 3, 1) := by decide +kernel
theorem dX6_odds_20 : decode cX6_odds 20 = .ok (.iconst 1, 1) := by decide +kernel
theorem dX6_odds_21 : decode cX6_odds 21 = .ok (.bipush 6, 2) := by decide +kernel
theorem dX6_odds_23 : decode cX6_odds 23 = .ok (.invokestatic 47, 3) := by decide +kernel
theorem dX6_odds_26 : decode cX6_odds 26 = .ok (.ifCond .eq 25, 3) := by decide +kernel
theorem dX6_odds_29 : decode cX6_odds 29 = .ok (.iload 4, 2) := by decide +kernel
theorem dX6_odds_31 : decode cX6_odds 31 = .ok (.iconst 0, 1) := by decide +kernel
theorem dX6_odds_32 : decode cX6_odds 32 = .ok (.iconst 1, 1) := by decide +kernel
theorem dX6_odds_33 : decode cX6_odds 33 = .ok (.invokestatic 47, 3) := by decide +kernel
theorem dX6_odds_36 : decode cX6_odds 36 = .ok (.ifCond .eq 15, 3) := by decide +kernel
theorem dX6_odds_39 : decode cX6_odds 39 = .ok (.aload_n 0, 1) := by decide +kernel
theorem dX6_odds_40 : decode cX6_odds 40 = .ok (.iload_n 1, 1) := by decide +kernel
theorem dX6_odds_41 : decode cX6_odds 41 = .ok (.iload_n 2, 1) := by decide +kernel
theorem dX6_odds_42 : decode cX6_odds 42 = .ok (.iload_n 3, 1) := by decide +kernel
theorem dX6_odds_43 : decode cX6_odds 43 = .ok (.iload 4, 2) := by decide +kernel
theorem dX6_odds_45 : decode cX6_odds 45 = .ok (.invokevirtual 200, 3) := by decide +kernel
theorem dX6_odds_48 : decode cX6_odds 48 = .ok (.goto 5, 3) := by decide +kernel
theorem dX6_odds_51 : decode cX6_odds 51 = .ok (.bipush (-102), 2) := by decide +kernel
theorem dX6_odds_53 : decode cX6_odds 53 = .ok (.ireturn, 1) := by decide +kernel
theorem dX6_see_0 : decode cX6_see 0 = .ok (.aload_n 0, 1) := by decide +kernel
theorem dX6_see_1 : decode cX6_see 1 = .ok (.iload_n 1, 1) := by decide +kernel
theorem dX6_see_2 : decode cX6_see 2 = .ok (.invokevirtual 133, 3) := by decide +kernel
theorem dX6_see_5 : decode cX6_see 5 = .ok (.ifCond .ne 6, 3) := by decide +kernel
theorem dX6_see_8 : decode cX6_see 8 = .ok (.bipush (-101), 2) := by decide +kernel
theorem dX6_see_10 : decode cX6_see 10 = .ok (.ireturn, 1) := by decide +kernel
theorem dX6_see_11 : decode cX6_see 11 = .ok (.iload_n 2, 1) := by decide +kernel
theorem dX6_see_12 : decode cX6_see 12 = .ok (.iconst 0, 1) := by decide +kernel
theorem dX6_see_13 : decode cX6_see 13 = .ok (.iconst 1, 1) := by decide +kernel
theorem dX6_see_14 : decode cX6_see 14 = .ok (.invokestatic 47, 3) := by decide +kernel
theorem dX6_see_17 : decode cX6_see 17 = .ok (.ifCond .eq 12, 3) := by decide +kernel
theorem dX6_see_20 : decode cX6_see 20 = .ok (.iload_n 3, 1) := by decide +kernel
theorem dX6_see_21 : decode cX6_see 21 = .ok (.iconst 0, 1) := by decide +kernel
theorem dX6_see_22 : decode cX6_see 22 = .ok (.iconst 3, 1) := by decide +kernel
theorem dX6_see_23 : decode cX6_see 23 = .ok (.invokestatic 47, 3) := by decide +kernel
theorem dX6_see_26 : decode cX6_see 26 = .ok (.ifCond .ne 6, 3) := by decide +kernel
theorem dX6_see_29 : decode cX6_see 29 = .ok (.bipush (-102), 2) := by decide +kernel
theorem dX6_see_31 : decode cX6_see 31 = .ok (.ireturn, 1) := by decide +kernel
theorem dX6_see_32 : decode cX6_see 32 = .ok (.aload_n 0, 1) := by decide +kernel
theorem dX6_see_33 : decode cX6_see 33 = .ok (.getfield 98, 3) := by decide +kernel
theorem dX6_see_36 : decode cX6_see 36 = .ok (.bipush 6, 2) := by decide +kernel
theorem dX6_see_38 : decode cX6_see 38 = .ok (.if_icmp .ne 6, 3) := by decide +kernel
theorem dX6_see_41 : decode cX6_see 41 = .ok (.bipush (-104), 2) := by decide +kernel
theorem dX6_see_43 : decode cX6_see 43 = .ok (.ireturn, 1) := by decide +kernel
theorem dX6_see_44 : decode cX6_see 44 = .ok (.aload_n 0, 1) := by decide +kernel
theorem dX6_see_45 : decode cX6_see 45 = .ok (.getfield 13, 3) := by decide +kernel
theorem dX6_see_48 : decode cX6_see 48 = .ok (.aload_n 0, 1) := by decide +kernel
theorem dX6_see_49 : decode cX6_see 49 = .ok (.getfield 98, 3) := by decide +kernel
theorem dX6_see_52 : decode cX6_see 52 = .ok (.iload_n 1, 1) := by decide +kernel
theorem dX6_see_53 : decode cX6_see 53 = .ok (.iastore, 1) := by decide +kernel
theorem dX6_see_54 : decode cX6_see 54 = .ok (.aload_n 0, 1) := by decide +kernel
theorem dX6_see_55 : decode cX6_see 55 = .ok (.getfield 16, 3) := by decide +kernel
theorem dX6_see_58 : decode cX6_see 58 = .ok (.aload_n 0, 1) := by decide +kernel
theorem dX6_see_59 : decode cX6_see 59 = .ok (.getfield 98, 3) := by decide +kernel
theorem dX6_see_62 : decode cX6_see 62 = .ok (.iload_n 2, 1) := by decide +kernel
theorem dX6_see_63 : decode cX6_see 63 = .ok (.iastore, 1) := by decide +kernel
theorem dX6_see_64 : decode cX6_see 64 = .ok (.aload_n 0, 1) := by decide +kernel
theorem dX6_see_65 : decode cX6_see 65 = .ok (.getfield 19, 3) := by decide +kernel
theorem dX6_see_68 : decode cX6_see 68 = .ok (.aload_n 0, 1) := by decide +kernel
theorem dX6_see_69 : decode cX6_see 69 = .ok (.getfield 98, 3) := by decide +kernel
theorem dX6_see_72 : decode cX6_see 72 = .ok (.iload_n 3, 1) := by decide +kernel
theorem dX6_see_73 : decode cX6_see 73 = .ok (.iastore, 1) := by decide +kernel
theorem dX6_see_74 : decode cX6_see 74 = .ok (.aload_n 0, 1) := by decide +kernel
theorem dX6_see_75 : decode cX6_see 75 = .ok (.dup, 1) := by decide +kernel
theorem dX6_see_76 : decode cX6_see 76 = .ok (.getfield 98, 3) := by decide +kernel
theorem dX6_see_79 : decode cX6_see 79 = .ok (.iconst 1, 1) := by decide +kernel
theorem dX6_see_80 : decode cX6_see 80 = .ok (.iadd, 1) := by decide +kernel
theorem dX6_see_81 : decode cX6_see 81 = .ok (.putfield 98, 3) := by decide +kernel
theorem dX6_see_84 : decode cX6_see 84 = .ok (.aload_n 0, 1) := by decide +kernel
theorem dX6_see_85 : decode cX6_see 85 = .ok (.getfield 98, 3) := by decide +kernel
theorem dX6_see_88 : decode cX6_see 88 = .ok (.ireturn, 1) := by decide +kernel
theorem dX6_forget_0 : decode cX6_forget 0 = .ok (.aload_n 0, 1) := by decide +kernel
theorem dX6_forget_1 : decode cX6_forget 1 = .ok (.getfield 98, 3) := by decide +kernel
theorem dX6_forget_4 : decode cX6_forget 4 = .ok (.istore_n 1, 1) := by decide +kernel
theorem dX6_forget_5 : decode cX6_forget 5 = .ok (.aload_n 0, 1) := by decide +kernel
theorem dX6_forget_6 : decode cX6_forget 6 = .ok (.iconst 0, 1) := by decide +kernel
theorem dX6_forget_7 : decode cX6_forget 7 = .ok (.putfield 98, 3) := by decide +kernel
theorem dX6_forget_10 : decode cX6_forget 10 = .ok (.iload_n 1, 1) := by decide +kernel
theorem dX6_forget_11 : decode cX6_forget 11 = .ok (.ireturn, 1) := by decide +kernel
theorem dX6_sortsOf_0 : decode cX6_sortsOf 0 = .ok (.iconst 0, 1) := by decide +kernel
theorem dX6_sortsOf_1 : decode cX6_sortsOf 1 = .ok (.istore_n 2, 1) := by decide +kernel
theorem dX6_sortsOf_2 : decode cX6_sortsOf 2 = .ok (.iconst 0, 1) := by decide +kernel
theorem dX6_sortsOf_3 : decode cX6_sortsOf 3 = .ok (.istore_n 3, 1) := by decide +kernel
theorem dX6_sortsOf_4 : decode cX6_sortsOf 4 = .ok (.iload_n 3, 1) := by decide +kernel
theorem dX6_sortsOf_5 : decode cX6_sortsOf 5 = .ok (.iconst 4, 1) := by decide +kernel
theorem dX6_sortsOf_6 : decode cX6_sortsOf 6 = .ok (.if_icmp .gt 89, 3) := by decide +kernel
theorem dX6_sortsOf_9 : decode cX6_sortsOf 9 = .ok (.iconst 1, 1) := by decide +kernel
theorem dX6_sortsOf_10 : decode cX6_sortsOf 10 = .ok (.istore 4, 2) := by decide +kernel
theorem dX6_sortsOf_12 : decode cX6_sortsOf 12 = .ok (.iconst 0, 1) := by decide +kernel
theorem dX6_sortsOf_13 : decode cX6_sortsOf 13 = .ok (.istore 5, 2) := by decide +kernel
theorem dX6_sortsOf_15 : decode cX6_sortsOf 15 = .ok (.iload 5, 2) := by decide +kernel
theorem dX6_sortsOf_17 : decode cX6_sortsOf 17 = .ok (.aload_n 0, 1) := by decide +kernel
theorem dX6_sortsOf_18 : decode cX6_sortsOf 18 = .ok (.getfield 98, 3) := by decide +kernel
theorem dX6_sortsOf_21 : decode cX6_sortsOf 21 = .ok (.if_icmp .ge 53, 3) := by decide +kernel
theorem dX6_sortsOf_24 : decode cX6_sortsOf 24 = .ok (.iload 4, 2) := by decide +kernel
theorem dX6_sortsOf_26 : decode cX6_sortsOf 26 = .ok (.ifCond .eq 39, 3) := by decide +kernel
theorem dX6_sortsOf_29 : decode cX6_sortsOf 29 = .ok (.aload_n 0, 1) := by decide +kernel
theorem dX6_sortsOf_30 : decode cX6_sortsOf 30 = .ok (.getfield 13, 3) := by decide +kernel
theorem dX6_sortsOf_33 : decode cX6_sortsOf 33 = .ok (.iload 5, 2) := by decide +kernel
theorem dX6_sortsOf_35 : decode cX6_sortsOf 35 = .ok (.iaload, 1) := by decide +kernel
theorem dX6_sortsOf_36 : decode cX6_sortsOf 36 = .ok (.iload_n 1, 1) := by decide +kernel
theorem dX6_sortsOf_37 : decode cX6_sortsOf 37 = .ok (.if_icmp .ne 24, 3) := by decide +kernel
theorem dX6_sortsOf_40 : decode cX6_sortsOf 40 = .ok (.iload_n 3, 1) := by decide +kernel
theorem dX6_sortsOf_41 : decode cX6_sortsOf 41 = .ok (.aload_n 0, 1) := by decide +kernel
theorem dX6_sortsOf_42 : decode cX6_sortsOf 42 = .ok (.getfield 16, 3) := by decide +kernel
theorem dX6_sortsOf_45 : decode cX6_sortsOf 45 = .ok (.iload 5, 2) := by decide +kernel
theorem dX6_sortsOf_47 : decode cX6_sortsOf 47 = .ok (.iaload, 1) := by decide +kernel
theorem dX6_sortsOf_48 : decode cX6_sortsOf 48 = .ok (.invokestatic 114, 3) := by decide +kernel
theorem dX6_sortsOf_51 : decode cX6_sortsOf 51 = .ok (.aload_n 0, 1) := by decide +kernel
theorem dX6_sortsOf_52 : decode cX6_sortsOf 52 = .ok (.getfield 19, 3) := by decide +kernel
theorem dX6_sortsOf_55 : decode cX6_sortsOf 55 = .ok (.iload 5, 2) := by decide +kernel
