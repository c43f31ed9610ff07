theorem dX0_init_0 : decode cX0_init 0 = .ok (.aload_n 0, 1) := by decide +kernel
theorem dX0_init_1 : decode cX0_init 1 = .ok (.invokespecial 3, 3) := by decide +kernel
theorem dX0_init_4 : decode cX0_init 4 = .ok (.aload_n 0, 1) := by decide +kernel
theorem dX0_init_5 : decode cX0_init 5 = .ok (.sipush 720, 3) := by decide +kernel
theorem dX0_init_8 : decode cX0_init 8 = .ok (.newarray .int, 2) := by decide +kernel
theorem dX0_init_10 : decode cX0_init 10 = .ok (.putfield 9, 3) := by decide +kernel
theorem dX0_init_13 : decode cX0_init 13 = .ok (.aload_n 0, 1) := by decide +kernel
theorem dX0_init_14 : decode cX0_init 14 = .ok (.sipush 720, 3) := by decide +kernel
theorem dX0_init_17 : decode cX0_init 17 = .ok (.newarray .int, 2) := by decide +kernel
theorem dX0_init_19 : decode cX0_init 19 = .ok (.putfield 15, 3) := by decide +kernel
theorem dX0_init_22 : decode cX0_init 22 = .ok (.aload_n 0, 1) := by decide +kernel
theorem dX0_init_23 : decode cX0_init 23 = .ok (.iconst (-1), 1) := by decide +kernel
theorem dX0_init_24 : decode cX0_init 24 = .ok (.putfield 18, 3) := by decide +kernel
theorem dX0_init_27 : decode cX0_init 27 = .ok (.aload_n 0, 1) := by decide +kernel
theorem dX0_init_28 : decode cX0_init 28 = .ok (.iconst (-1), 1) := by decide +kernel
theorem dX0_init_29 : decode cX0_init 29 = .ok (.putfield 22, 3) := by decide +kernel
theorem dX0_init_32 : decode cX0_init 32 = .ok (.aload_n 0, 1) := by decide +kernel
theorem dX0_init_33 : decode cX0_init 33 = .ok (.aload_n 1, 1) := by decide +kernel
theorem dX0_init_34 : decode cX0_init 34 = .ok (.putfield 25, 3) := by decide +kernel
theorem dX0_init_37 : decode cX0_init 37 = .ok (.return_, 1) := by decide +kernel
theorem dX0_drawFrom_0 : decode cX0_drawFrom 0 = .ok (.iload_n 1, 1) := by decide +kernel
theorem dX0_drawFrom_1 : decode cX0_drawFrom 1 = .ok (.aload_n 0, 1) := by decide +kernel
theorem dX0_drawFrom_2 : decode cX0_drawFrom 2 = .ok (.getfield 18, 3) := by decide +kernel
theorem dX0_drawFrom_5 : decode cX0_drawFrom 5 = .ok (.if_icmp .ne 20, 3) := by decide +kernel
theorem dX0_drawFrom_8 : decode cX0_drawFrom 8 = .ok (.iload_n 2, 1) := by decide +kernel
theorem dX0_drawFrom_9 : decode cX0_drawFrom 9 = .ok (.aload_n 0, 1) := by decide +kernel
theorem dX0_drawFrom_10 : decode cX0_drawFrom 10 = .ok (.getfield 22, 3) := by decide +kernel
theorem dX0_drawFrom_13 : decode cX0_drawFrom 13 = .ok (.if_icmp .ne 12, 3) := by decide +kernel
theorem dX0_drawFrom_16 : decode cX0_drawFrom 16 = .ok (.iload_n 3, 1) := by decide +kernel
theorem dX0_drawFrom_17 : decode cX0_drawFrom 17 = .ok (.aload_n 0, 1) := by decide +kernel
theorem dX0_drawFrom_18 : decode cX0_drawFrom 18 = .ok (.getfield 29, 3) := by decide +kernel
theorem dX0_drawFrom_21 : decode cX0_drawFrom 21 = .ok (.if_icmp .ne 4, 3) := by decide +kernel
theorem dX0_drawFrom_24 : decode cX0_drawFrom 24 = .ok (.return_, 1) := by decide +kernel
theorem dX0_drawFrom_25 : decode cX0_drawFrom 25 = .ok (.aload_n 0, 1) := by decide +kernel
theorem dX0_drawFrom_26 : decode cX0_drawFrom 26 = .ok (.iload_n 1, 1) := by decide +kernel
theorem dX0_drawFrom_27 : decode cX0_drawFrom 27 = .ok (.putfield 18, 3) := by decide +kernel
theorem dX0_drawFrom_30 : decode cX0_drawFrom 30 = .ok (.aload_n 0, 1) := by decide +kernel
theorem dX0_drawFrom_31 : decode cX0_drawFrom 31 = .ok (.iload_n 2, 1) := by decide +kernel
theorem dX0_drawFrom_32 : decode cX0_drawFrom 32 = .ok (.putfield 22, 3) := by decide +kernel
theorem dX0_drawFrom_35 : decode cX0_drawFrom 35 = .ok (.aload_n 0, 1) := by decide +kernel
theorem dX0_drawFrom_36 : decode cX0_drawFrom 36 = .ok (.iload_n 3, 1) := by decide +kernel
theorem dX0_drawFrom_37 : decode cX0_drawFrom 37 = .ok (.putfield 29, 3) := by decide +kernel
theorem dX0_drawFrom_40 : decode cX0_drawFrom 40 = .ok (.aload_n 0, 1) := by decide +kernel
theorem dX0_drawFrom_41 : decode cX0_drawFrom 41 = .ok (.getfield 9, 3) := by decide +kernel
theorem dX0_drawFrom_44 : decode cX0_drawFrom 44 = .ok (.iconst 0, 1) := by decide +kernel
theorem dX0_drawFrom_45 : decode cX0_drawFrom 45 = .ok (.invokestatic 32, 3) := by decide +kernel
theorem dX0_drawFrom_48 : decode cX0_drawFrom 48 = .ok (.iload_n 1, 1) := by decide +kernel
theorem dX0_drawFrom_49 : decode cX0_drawFrom 49 = .ok (.iconst 0, 1) := by decide +kernel
theorem dX0_drawFrom_50 : decode cX0_drawFrom 50 = .ok (.sipush 719, 3) := by decide +kernel
theorem dX0_drawFrom_53 : decode cX0_drawFrom 53 = .ok (.invokestatic 38, 3) := by decide +kernel
theorem dX0_drawFrom_56 : decode cX0_drawFrom 56 = .ok (.ifCond .eq 11, 3) := by decide +kernel
theorem dX0_drawFrom_59 : decode cX0_drawFrom 59 = .ok (.aload_n 0, 1) := by decide +kernel
theorem dX0_drawFrom_60 : decode cX0_drawFrom 60 = .ok (.getfield 9, 3) := by decide +kernel
theorem dX0_drawFrom_63 : decode cX0_drawFrom 63 = .ok (.iload_n 1, 1) := by decide +kernel
theorem dX0_drawFrom_64 : decode cX0_drawFrom 64 = .ok (.ldc 42, 2) := by decide +kernel
theorem dX0_drawFrom_66 : decode cX0_drawFrom 66 = .ok (.iastore, 1) := by decide +kernel
theorem dX0_drawFrom_67 : decode cX0_drawFrom 67 = .ok (.iconst 0, 1) := by decide +kernel
theorem dX0_drawFrom_68 : decode cX0_drawFrom 68 = .ok (.istore 4, 2) := by decide +kernel
theorem dX0_drawFrom_70 : decode cX0_drawFrom 70 = .ok (.iload 4, 2) := by decide +kernel
theorem dX0_drawFrom_72 : decode cX0_drawFrom 72 = .ok (.iload_n 3, 1) := by decide +kernel
theorem dX0_drawFrom_73 : decode cX0_drawFrom 73 = .ok (.if_icmp .ge 87, 3) := by decide +kernel
theorem dX0_drawFrom_76 : decode cX0_drawFrom 76 = .ok (.aload_n 0, 1) := by decide +kernel
theorem dX0_drawFrom_77 : decode cX0_drawFrom 77 = .ok (.getfield 15, 3) := by decide +kernel
theorem dX0_drawFrom_80 : decode cX0_drawFrom 80 = .ok (.iconst 0, 1) := by decide +kernel
theorem dX0_drawFrom_81 : decode cX0_drawFrom 81 = .ok (.invokestatic 32, 3) := by decide +kernel
theorem dX0_drawFrom_84 : decode cX0_drawFrom 84 = .ok (.iconst 0, 1) := by decide +kernel
theorem dX0_drawFrom_85 : decode cX0_drawFrom 85 = .ok (.istore 5, 2) := by decide +kernel
theorem dX0_drawFrom_87 : decode cX0_drawFrom 87 = .ok (.iload 5, 2) := by decide +kernel
theorem dX0_drawFrom_89 : decode cX0_drawFrom 89 = .ok (.sipush 720, 3) := by decide +kernel
theorem dX0_drawFrom_92 : decode cX0_drawFrom 92 = .ok (.if_icmp .ge 42, 3) := by decide +kernel
theorem dX0_drawFrom_95 : decode cX0_drawFrom 95 = .ok (.aload_n 0, 1) := by decide +kernel
theorem dX0_drawFrom_96 : decode cX0_drawFrom 96 = .ok (.getfield 9, 3) := by decide +kernel
theorem dX0_drawFrom_99 : decode cX0_drawFrom 99 = .ok (.iload 5, 2) := by decide +kernel
theorem dX0_drawFrom_101 : decode cX0_drawFrom 101 = .ok (.iaload, 1) := by decide +kernel
theorem dX0_drawFrom_102 : decode cX0_drawFrom 102 = .ok (.ifCond .le 26, 3) := by decide +kernel
theorem dX0_drawFrom_105 : decode cX0_drawFrom 105 = .ok (.aload_n 0, 1) := by decide +kernel
theorem dX0_drawFrom_106 : decode cX0_drawFrom 106 = .ok (.iload 5, 2) := by decide +kernel
theorem dX0_drawFrom_108 : decode cX0_drawFrom 108 = .ok (.aload_n 0, 1) := by decide +kernel
theorem dX0_drawFrom_109 : decode cX0_drawFrom 109 = .ok (.getfield 9, 3) := by decide +kernel
theorem dX0_drawFrom_112 : decode cX0_drawFrom 112 = .ok (.iload 5, 2) := by decide +kernel
theorem dX0_drawFrom_114 : decode cX0_drawFrom 114 = .ok (.iaload, 1) := by decide +kernel
theorem dX0_drawFrom_115 : decode cX0_drawFrom 115 = .ok (.aload_n 0, 1) := by decide +kernel
theorem dX0_drawFrom_116 : decode cX0_drawFrom 116 = .ok (.getfield 25, 3) := by decide +kernel
theorem dX0_drawFrom_119 : decode cX0_drawFrom 119 = .ok (.iload 5, 2) := by decide +kernel
theorem dX0_drawFrom_121 : decode cX0_drawFrom 121 = .ok (.iload_n 2, 1) := by decide +kernel
theorem dX0_drawFrom_122 : decode cX0_drawFrom 122 = .ok (.invokevirtual 43, 3) := by decide +kernel
theorem dX0_drawFrom_125 : decode cX0_drawFrom 125 = .ok (.invokevirtual 49, 3) := by decide +kernel
theorem dX0_drawFrom_128 : decode cX0_drawFrom 128 = .ok (.iinc 5 1, 3) := by decide +kernel
theorem dX0_drawFrom_131 : decode cX0_drawFrom 131 = .ok (.goto (-44), 3) := by decide +kernel
theorem dX0_drawFrom_134 : decode cX0_drawFrom 134 = .ok (.aload_n 0, 1) := by decide +kernel
theorem dX0_drawFrom_135 : decode cX0_drawFrom 135 = .ok (.getfield 9, 3) := by decide +kernel
theorem dX0_drawFrom_138 : decode cX0_drawFrom 138 = .ok (.astore 5, 2) := by decide +kernel
theorem dX0_drawFrom_140 : decode cX0_drawFrom 140 = .ok (.aload_n 0, 1) := by decide +kernel
theorem dX0_drawFrom_141 : decode cX0_drawFrom 141 = .ok (.aload_n 0, 1) := by decide +kernel
theorem dX0_drawFrom_142 : decode cX0_drawFrom 142 = .ok (.getfield 15, 3) := by decide +kernel
theorem dX0_drawFrom_145 : decode cX0_drawFrom 145 = .ok (.putfield 9, 3) := by decide +kernel
theorem dX0_drawFrom_148 : decode cX0_drawFrom 148 = .ok (.aload_n 0, 1) := by decide +kernel
theorem dX0_drawFrom_149 : decode cX0_drawFrom 149 = .ok (.aload 5, 2) := by decide +kernel
theorem dX0_drawFrom_151 : decode cX0_drawFrom 151 = .ok (.putfield 15, 3) := by decide +kernel
theorem dX0_drawFrom_154 : decode cX0_drawFrom 154 = .ok (.iinc 4 1, 3) := by decide +kernel
theorem dX0_drawFrom_157 : decode cX0_drawFrom 157 = .ok (.goto (-87), 3) := by decide +kernel
theorem dX0_drawFrom_160 : decode cX0_drawFrom 160 = .ok (.return_, 1) := by decide +kernel
theorem dX0_share_0 : decode cX0_share 0 = .ok (.iload_n 3, 1) := by decide +kernel
theorem dX0_share_1 : decode cX0_share 1 = .ok (.ifCond .ne 10, 3) := by decide +kernel
theorem dX0_share_4 : decode cX0_share 4 = .ok (.aload_n 0, 1) := by decide +kernel
theorem dX0_share_5 : decode cX0_share 5 = .ok (.iload_n 1, 1) := by decide +kernel
theorem dX0_share_6 : decode cX0_share 6 = .ok (.iload_n 2, 1) := by decide +kernel
theorem dX0_share_7 : decode cX0_share 7 = .ok (.invokevirtual 53, 3) := by decide +kernel
theorem dX0_share_10 : decode cX0_share 10 = .ok (.return_, 1) := by decide +kernel
theorem dX0_share_11 : decode cX0_share 11 = .ok (.iconst 0, 1) := by decide +kernel
theorem dX0_share_12 : decode cX0_share 12 = .ok (.istore 4, 2) := by decide +kernel
theorem dX0_share_14 : decode cX0_share 14 = .ok (.iload 4, 2) := by decide +kernel
theorem dX0_share_16 : decode cX0_share 16 = .ok (.iconst 5, 1) := by decide +kernel
theorem dX0_share_17 : decode cX0_share 17 = .ok (.if_icmp .ge 44, 3) := by decide +kernel
theorem dX0_share_20 : decode cX0_share 20 = .ok (.aload_n 0, 1) := by decide +kernel
theorem dX0_share_21 : decode cX0_share 21 = .ok (.getfield 25, 3) := by decide +kernel
theorem dX0_share_24 : decode cX0_share 24 = .ok (.iload_n 1, 1) := by decide +kernel
theorem dX0_share_25 : decode cX0_share 25 = .ok (.iload 4, 2) := by decide +kernel
theorem dX0_share_27 : decode cX0_share 27 = .ok (.aload_n 0, 1) := by decide +kernel
theorem dX0_share_28 : decode cX0_share 28 = .ok (.getfield 22, 3) := by decide +kernel
theorem dX0_share_31 : decode cX0_share 31 = .ok (.invokevirtual 57, 3) := by decide +kernel
theorem dX0_share_34 : decode cX0_share 34 = .ok (.iconst (-1), 1) := by decide +kernel
theorem dX0_share_35 : decode cX0_share 35 = .ok (.if_icmp .eq 20, 3) := by decide +kernel
theorem dX0_share_38 : decode cX0_share 38 = .ok (.aload_n 0, 1) := by decide +kernel
theorem dX0_share_39 : decode cX0_share 39 = .ok (.aload_n 0, 1) := by decide +kernel
theorem dX0_share_40 : decode cX0_share 40 = .ok (.getfield 25, 3) := by decide +kernel
theorem dX0_share_43 : decode cX0_share 43 = .ok (.iload_n 1, 1) := by decide +kernel
theorem dX0_share_44 : decode cX0_share 44 = .ok (.iload 4, 2) := by decide +kernel
theorem dX0_share_46 : decode cX0_share 46 = .ok (.invokevirtual 61, 3) := by decide +kernel
theorem dX0_share_49 : decode cX0_share 49 = .ok (.iload_n 2, 1) := by decide +kernel
theorem dX0_share_50 : decode cX0_share 50 = .ok (.iload_n 3, 1) := by decide +kernel
theorem dX0_share_51 : decode cX0_share 51 = .ok (.idiv, 1) := by decide +kernel
theorem dX0_share_52 : decode cX0_share 52 = .ok (.invokevirtual 53, 3) := by decide +kernel
theorem dX0_share_55 : decode cX0_share 55 = .ok (.iinc 4 1, 3) := by decide +kernel
theorem dX0_share_58 : decode cX0_share 58 = .ok (.goto (-44), 3) := by decide +kernel
theorem dX0_share_61 : decode cX0_share 61 = .ok (.return_, 1) := by decide +kernel
theorem dX0_give_0 : decode cX0_give 0 = .ok (.iload_n 1, 1) := by decide +kernel
theorem dX0_give_1 : decode cX0_give 1 = .ok (.iconst 0, 1) := by decide +kernel
theorem dX0_give_2 : decode cX0_give 2 = .ok (.sipush 719, 3) := by decide +kernel
theorem dX0_give_5 : decode cX0_give 5 = .ok (.invokestatic 38, 3) := by decide +kernel
theorem dX0_give_8 : decode cX0_give 8 = .ok (.ifCond .eq 13, 3) := by decide +kernel
theorem dX0_give_11 : decode cX0_give 11 = .ok (.aload_n 0, 1) := by decide +kernel
theorem dX0_give_12 : decode cX0_give 12 = .ok (.getfield 15, 3) := by decide +kernel
theorem dX0_give_15 : decode cX0_give 15 = .ok (.iload_n 1, 1) := by decide +kernel
theorem dX0_give_16 : decode cX0_give 16 = .ok (.dup2, 1) := by decide +kernel
theorem dX0_give_17 : decode cX0_give 17 = .ok (.iaload, 1) := by decide +kernel
theorem dX0_give_18 : decode cX0_give 18 = .ok (.iload_n 2, 1) := by decide +kernel
theorem dX0_give_19 : decode cX0_give 19 = .ok (.iadd, 1) := by decide +kernel
theorem dX0_give_20 : decode cX0_give 20 = .ok (.iastore, 1) := by decide +kernel
theorem dX0_give_21 : decode cX0_give 21 = .ok (.return_, 1) := by decide +kernel
theorem dX0_partsWith_0 : decode cX0_partsWith 0 = .ok (.iconst 0, 1) := by decide +kernel
theorem dX0_partsWith_1 : decode cX0_partsWith 1 = .ok (.istore_n 3, 1) := by decide +kernel
theorem dX0_partsWith_2 : decode cX0_partsWith 2 = .ok (.iconst 0, 1) := by decide +kernel
theorem dX0_partsWith_3 : decode cX0_partsWith 3 = .ok (.istore 4, 2) := by decide +kernel
theorem dX0_partsWith_5 : decode cX0_partsWith 5 = .ok (.iload 4, 2) := by decide +kernel
theorem dX0_partsWith_7 : decode cX0_partsWith 7 = .ok (.sipush 720, 3) := by decide +kernel
theorem dX0_partsWith_10 : decode cX0_partsWith 10 = .ok (.if_icmp .ge 43, 3) := by decide +kernel
theorem dX0_partsWith_13 : decode cX0_partsWith 13 = .ok (.aload_n 0, 1) := by decide +kernel
theorem dX0_partsWith_14 : decode cX0_partsWith 14 = .ok (.getfield 9, 3) := by decide +kernel
theorem dX0_partsWith_17 : decode cX0_partsWith 17 = .ok (.iload 4, 2) := by decide +kernel
theorem dX0_partsWith_19 : decode cX0_partsWith 19 = .ok (.iaload, 1) := by decide +kernel
theorem dX0_partsWith_20 : decode cX0_partsWith 20 = .ok (.ifCond .le 27, 3) := by decide +kernel
theorem dX0_partsWith_23 : decode cX0_partsWith 23 = .ok (.aload_n 0, 1) := by decide +kernel
theorem dX0_partsWith_24 : decode cX0_partsWith 24 = .ok (.getfield 25, 3) := by decide +kernel
theorem dX0_partsWith_27 : decode cX0_partsWith 27 = .ok (.iload 4, 2) := by decide +kernel
theorem dX0_partsWith_29 : decode cX0_partsWith 29 = .ok (.iload_n 1, 1) := by decide +kernel
theorem dX0_partsWith_30 : decode cX0_partsWith 30 = .ok (.invokevirtual 64, 3) := by decide +kernel
theorem dX0_partsWith_33 : decode cX0_partsWith 33 = .ok (.iload_n 2, 1) := by decide +kernel
theorem dX0_partsWith_34 : decode cX0_partsWith 34 = .ok (.if_icmp .ne 13, 3) := by decide +kernel
theorem dX0_partsWith_37 : decode cX0_partsWith 37 = .ok (.iload_n 3, 1) := by decide +kernel
theorem dX0_partsWith_38 : decode cX0_partsWith 38 = .ok (.aload_n 0, 1) := by decide +kernel
theorem dX0_partsWith_39 : decode cX0_partsWith 39 = .ok (.getfield 9, 3) := by decide +kernel
theorem dX0_partsWith_42 : decode cX0_partsWith 42 = .ok (.iload 4, 2) := by decide +kernel
theorem dX0_partsWith_44 : decode cX0_partsWith 44 = .ok (.iaload, 1) := by decide +kernel
theorem dX0_partsWith_45 : decode cX0_partsWith 45 = .ok (.iadd, 1) := by decide +kernel
theorem dX0_partsWith_46 : decode cX0_partsWith 46 = .ok (.istore_n 3, 1) := by decide +kernel
theorem dX0_partsWith_47 : decode cX0_partsWith 47 = .ok (.iinc 4 1, 3) := by decide +kernel
theorem dX0_partsWith_50 : decode cX0_partsWith 50 = .ok (.goto (-45), 3) := by decide +kernel
theorem dX0_partsWith_53 : decode cX0_partsWith 53 = .ok (.iload_n 3, 1) := by decide +kernel
theorem dX0_partsWith_54 : decode cX0_partsWith 54 = .ok (.ireturn, 1) := by decide +kernel
theorem dX1_price_0 : decode cX1_price 0 = .ok (.iload_n 1, 1) := by decide +kernel
theorem dX1_price_1 : decode cX1_price 1 = .ok (.ifCond .ne 10, 3) := by decide +kernel
theorem dX1_price_4 : decode cX1_price 4 = .ok (.aload_n 0, 1) := by decide +kernel
theorem dX1_price_5 : decode cX1_price 5 = .ok (.getfield 44, 3) := by decide +kernel
theorem dX1_price_8 : decode cX1_price 8 = .ok (.goto 7, 3) := by decide +kernel
theorem dX1_price_11 : decode cX1_price 11 = .ok (.aload_n 0, 1) := by decide +kernel
theorem dX1_price_12 : decode cX1_price 12 = .ok (.getfield 47, 3) := by decide +kernel
theorem dX1_price_15 : decode cX1_price 15 = .ok (.ireturn, 1) := by decide +kernel
theorem dX1_isA_0 : decode cX1_isA 0 = .ok (.aload_n 0, 1) := by decide +kernel
theorem dX1_isA_1 : decode cX1_isA 1 = .ok (.getfield 50, 3) := by decide +kernel
theorem dX1_isA_4 : decode cX1_isA 4 = .ok (.iload_n 1, 1) := by decide +kernel
theorem dX1_isA_5 : decode cX1_isA 5 = .ok (.ishr, 1) := by decide +kernel
theorem dX1_isA_6 : decode cX1_isA 6 = .ok (.iconst 1, 1) := by decide +kernel
theorem dX1_isA_7 : decode cX1_isA 7 = .ok (.iand, 1) := by decide +kernel
theorem dX1_isA_8 : decode cX1_isA 8 = .ok (.iconst 1, 1) := by decide +kernel
theorem dX1_isA_9 : decode cX1_isA 9 = .ok (.if_icmp .ne 7, 3) := by decide +kernel
theorem dX1_isA_12 : decode cX1_isA 12 = .ok (.iconst 1, 1) := by decide +kernel
theorem dX1_isA_13 : decode cX1_isA 13 = .ok (.goto 4, 3) := by decide +kernel
theorem dX1_isA_16 : decode cX1_isA 16 = .ok (.iconst 0, 1) := by decide +kernel
theorem dX1_isA_17 : decode cX1_isA 17 = .ok (.ireturn, 1) := by decide +kernel
theorem dX2_init_0 : decode cX2_init 0 = .ok (.aload_n 0, 1) := by decide +kernel
theorem dX2_init_1 : decode cX2_init 1 = .ok (.invokespecial 3, 3) := by decide +kernel
theorem dX2_init_4 : decode cX2_init 4 = .ok (.aload_n 0, 1) := by decide +kernel
theorem dX2_init_5 : decode cX2_init 5 = .ok (.sipush 4320, 3) := by decide +kernel
theorem dX2_init_8 : decode cX2_init 8 = .ok (.newarray .int, 2) := by decide +kernel
theorem dX2_init_10 : decode cX2_init 10 = .ok (.putfield 9, 3) := by decide +kernel
theorem dX2_init_13 : decode cX2_init 13 = .ok (.aload_n 0, 1) := by decide +kernel
theorem dX2_init_14 : decode cX2_init 14 = .ok (.sipush 4320, 3) := by decide +kernel
theorem dX2_init_17 : decode cX2_init 17 = .ok (.newarray .int, 2) := by decide +kernel
theorem dX2_init_19 : decode cX2_init 19 = .ok (.putfield 15, 3) := by decide +kernel
theorem dX2_init_22 : decode cX2_init 22 = .ok (.aload_n 0, 1) := by decide +kernel
theorem dX2_init_23 : decode cX2_init 23 = .ok (.sipush 4320, 3) := by decide +kernel
theorem dX2_init_26 : decode cX2_init 26 = .ok (.newarray .int, 2) := by decide +kernel
theorem dX2_init_28 : decode cX2_init 28 = .ok (.putfield 18, 3) := by decide +kernel
theorem dX2_init_31 : decode cX2_init 31 = .ok (.aload_n 0, 1) := by decide +kernel
theorem dX2_init_32 : decode cX2_init 32 = .ok (.sipush 4320, 3) := by decide +kernel
theorem dX2_init_35 : decode cX2_init 35 = .ok (.newarray .int, 2) := by decide +kernel
theorem dX2_init_37 : decode cX2_init 37 = .ok (.putfield 21, 3) := by decide +kernel
theorem dX2_init_40 : decode cX2_init 40 = .ok (.aload_n 0, 1) := by decide +kernel
theorem dX2_init_41 : decode cX2_init 41 = .ok (.bipush 6, 2) := by decide +kernel
theorem dX2_init_43 : decode cX2_init 43 = .ok (.newarray .int, 2) := by decide +kernel
theorem dX2_init_45 : decode cX2_init 45 = .ok (.putfield 24, 3) := by decide +kernel
theorem dX2_init_48 : decode cX2_init 48 = .ok (.iconst 0, 1) := by decide +kernel
theorem dX2_init_49 : decode cX2_init 49 = .ok (.istore_n 1, 1) := by decide +kernel
theorem dX2_init_50 : decode cX2_init 50 = .ok (.iload_n 1, 1) := by decide +kernel
theorem dX2_init_51 : decode cX2_init 51 = .ok (.sipush 720, 3) := by decide +kernel
theorem dX2_init_54 : decode cX2_init 54 = .ok (.if_icmp .ge 14, 3) := by decide +kernel
theorem dX2_init_57 : decode cX2_init 57 = .ok (.aload_n 0, 1) := by decide +kernel
theorem dX2_init_58 : decode cX2_init 58 = .ok (.iload_n 1, 1) := by decide +kernel
theorem dX2_init_59 : decode cX2_init 59 = .ok (.invokevirtual 27, 3) := by decide +kernel
theorem dX2_init_62 : decode cX2_init 62 = .ok (.iinc 1 1, 3) := by decide +kernel
theorem dX2_init_65 : decode cX2_init 65 = .ok (.goto (-15), 3) := by decide +kernel
theorem dX2_init_68 : decode cX2_init 68 = .ok (.iconst 0, 1) := by decide +kernel
theorem dX2_init_69 : decode cX2_init 69 = .ok (.istore_n 1, 1) := by decide +kernel
theorem dX2_init_70 : decode cX2_init 70 = .ok (.iload_n 1, 1) := by decide +kernel
theorem dX2_init_71 : decode cX2_init 71 = .ok (.sipush 720, 3) := by decide +kernel
theorem dX2_init_74 : decode cX2_init 74 = .ok (.if_icmp .ge 14, 3) := by decide +kernel
theorem dX2_init_77 : decode cX2_init 77 = .ok (.aload_n 0, 1) := by decide +kernel
theorem dX2_init_78 : decode cX2_init 78 = .ok (.iload_n 1, 1) := by decide +kernel
theorem dX2_init_79 : decode cX2_init 79 = .ok (.invokevirtual 31, 3) := by decide +kernel
theorem dX2_init_82 : decode cX2_init 82 = .ok (.iinc 1 1, 3) := by decide +kernel
theorem dX2_init_85 : decode cX2_init 85 = .ok (.goto (-15), 3) := by decide +kernel
theorem dX2_init_88 : decode cX2_init 88 = .ok (.return_, 1) := by decide +kernel
theorem dX2_numberOf_0 : decode cX2_numberOf 0 = .ok (.bipush 63, 2) := by decide +kernel
theorem dX2_numberOf_2 : decode cX2_numberOf 2 = .ok (.istore_n 1, 1) := by decide +kernel
theorem dX2_numberOf_3 : decode cX2_numberOf 3 = .ok (.iconst 0, 1) := by decide +kernel
theorem dX2_numberOf_4 : decode cX2_numberOf 4 = .ok (.istore_n 2, 1) := by decide +kernel
theorem dX2_numberOf_5 : decode cX2_numberOf 5 = .ok (.iconst 0, 1) := by decide +kernel
theorem dX2_numberOf_6 : decode cX2_numberOf 6 = .ok (.istore_n 3, 1) := by decide +kernel
theorem dX2_numberOf_7 : decode cX2_numberOf 7 = .ok (.iload_n 3, 1) := by decide +kernel
theorem dX2_numberOf_8 : decode cX2_numberOf 8 = .ok (.aload_n 0, 1) := by decide +kernel
theorem dX2_numberOf_9 : decode cX2_numberOf 9 = .ok (.arraylength, 1) := by decide +kernel
theorem dX2_numberOf_10 : decode cX2_numberOf 10 = .ok (.if_icmp .ge 46, 3) := by decide +kernel
theorem dX2_numberOf_13 : decode cX2_numberOf 13 = .ok (.iload_n 3, 1) := by decide +kernel
theorem dX2_numberOf_14 : decode cX2_numberOf 14 = .ok (.bipush 6, 2) := by decide +kernel
theorem dX2_numberOf_16 : decode cX2_numberOf 16 = .ok (.if_icmp .ge 40, 3) := by decide +kernel
theorem dX2_numberOf_19 : decode cX2_numberOf 19 = .ok (.iload_n 2, 1) := by decide +kernel
theorem dX2_numberOf_20 : decode cX2_numberOf 20 = .ok (.getstatic 34, 3) := by decide +kernel
theorem dX2_numberOf_23 : decode cX2_numberOf 23 = .ok (.iload_n 3, 1) := by decide +kernel
theorem dX2_numberOf_24 : decode cX2_numberOf 24 = .ok (.iaload, 1) := by decide +kernel
theorem dX2_numberOf_25 : decode cX2_numberOf 25 = .ok (.iload_n 1, 1) := by decide +kernel
theorem dX2_numberOf_26 : decode cX2_numberOf 26 = .ok (.iconst 1, 1) := by decide +kernel
theorem dX2_numberOf_27 : decode cX2_numberOf 27 = .ok (.aload_n 0, 1) := by decide +kernel
theorem dX2_numberOf_28 : decode cX2_numberOf 28 = .ok (.iload_n 3, 1) := by decide +kernel
theorem dX2_numberOf_29 : decode cX2_numberOf 29 = .ok (.iaload, 1) := by decide +kernel
theorem dX2_numberOf_30 : decode cX2_numberOf 30 = .ok (.ishl, 1) := by decide +kernel
theorem dX2_numberOf_31 : decode cX2_numberOf 31 = .ok (.iconst 1, 1) := by decide +kernel
theorem dX2_numberOf_32 : decode cX2_numberOf 32 = .ok (.isub, 1) := by decide +kernel
theorem dX2_numberOf_33 : decode cX2_numberOf 33 = .ok (.iand, 1) := by decide +kernel
theorem dX2_numberOf_34 : decode cX2_numberOf 34 = .ok (.invokestatic 37, 3) := by decide +kernel
theorem dX2_numberOf_37 : decode cX2_numberOf 37 = .ok (.imul, 1) := by decide +kernel
theorem dX2_numberOf_38 : decode cX2_numberOf 38 = .ok (.iadd, 1) := by decide +kernel
theorem dX2_numberOf_39 : decode cX2_numberOf 39 = .ok (.istore_n 2, 1) := by decide +kernel
theorem dX2_numberOf_40 : decode cX2_numberOf 40 = .ok (.iload_n 1, 1) := by decide +kernel
theorem dX2_numberOf_41 : decode cX2_numberOf 41 = .ok (.iconst 1, 1) := by decide +kernel
theorem dX2_numberOf_42 : decode cX2_numberOf 42 = .ok (.aload_n 0, 1) := by decide +kernel
theorem dX2_numberOf_43 : decode cX2_numberOf 43 = .ok (.iload_n 3, 1) := by decide +kernel
theorem dX2_numberOf_44 : decode cX2_numberOf 44 = .ok (.iaload, 1) := by decide +kernel
theorem dX2_numberOf_45 : decode cX2_numberOf 45 = .ok (.ishl, 1) := by decide +kernel
theorem dX2_numberOf_46 : decode cX2_numberOf 46 = .ok (.iconst (-1), 1) := by decide +kernel
theorem dX2_numberOf_47 : decode cX2_numberOf 47 = .ok (.ixor, 1) := by decide +kernel
theorem dX2_numberOf_48 : decode cX2_numberOf 48 = .ok (.iand, 1) := by decide +kernel
theorem dX2_numberOf_49 : decode cX2_numberOf 49 = .ok (.istore_n 1, 1) := by decide +kernel
theorem dX2_numberOf_50 : decode cX2_numberOf 50 = .ok (.iinc 3 1, 3) := by decide +kernel
theorem dX2_numberOf_53 : decode cX2_numberOf 53 = .ok (.goto (-46), 3) := by decide +kernel
theorem dX2_numberOf_56 : decode cX2_numberOf 56 = .ok (.iload_n 2, 1) := by decide +kernel
theorem dX2_numberOf_57 : decode cX2_numberOf 57 = .ok (.ireturn, 1) := by decide +kernel
theorem dX2_spell_0 : decode cX2_spell 0 = .ok (.bipush 63, 2) := by decide +kernel
theorem dX2_spell_2 : decode cX2_spell 2 = .ok (.istore_n 2, 1) := by decide +kernel
theorem dX2_spell_3 : decode cX2_spell 3 = .ok (.iload_n 1, 1) := by decide +kernel
theorem dX2_spell_4 : decode cX2_spell 4 = .ok (.istore_n 3, 1) := by decide +kernel
theorem dX2_spell_5 : decode cX2_spell 5 = .ok (.iconst 0, 1) := by decide +kernel
theorem dX2_spell_6 : decode cX2_spell 6 = .ok (.istore 4, 2) := by decide +kernel
theorem dX2_spell_8 : decode cX2_spell 8 = .ok (.iload 4, 2) := by decide +kernel
theorem dX2_spell_10 : decode cX2_spell 10 = .ok (.bipush 6, 2) := by decide +kernel
theorem dX2_spell_12 : decode cX2_spell 12 = .ok (.if_icmp .ge 69, 3) := by decide +kernel
theorem dX2_spell_15 : decode cX2_spell 15 = .ok (.iload_n 2, 1) := by decide +kernel
theorem dX2_spell_16 : decode cX2_spell 16 = .ok (.iload_n 3, 1) := by decide +kernel
theorem dX2_spell_17 : decode cX2_spell 17 = .ok (.getstatic 34, 3) := by decide +kernel
theorem dX2_spell_20 : decode cX2_spell 20 = .ok (.iload 4, 2) := by decide +kernel
theorem dX2_spell_22 : decode cX2_spell 22 = .ok (.iaload, 1) := by decide +kernel
theorem dX2_spell_23 : decode cX2_spell 23 = .ok (.idiv, 1) := by decide +kernel
theorem dX2_spell_24 : decode cX2_spell 24 = .ok (.invokestatic 43, 3) := by decide +kernel
theorem dX2_spell_27 : decode cX2_spell 27 = .ok (.istore 5, 2) := by decide +kernel
theorem dX2_spell_29 : decode cX2_spell 29 = .ok (.iload_n 3, 1) := by decide +kernel
theorem dX2_spell_30 : decode cX2_spell 30 = .ok (.getstatic 34, 3) := by decide +kernel
theorem dX2_spell_33 : decode cX2_spell 33 = .ok (.iload 4, 2) := by decide +kernel
theorem dX2_spell_35 : decode cX2_spell 35 = .ok (.iaload, 1) := by decide +kernel
theorem dX2_spell_36 : decode cX2_spell 36 = .ok (.irem, 1) := by decide +kernel
theorem dX2_spell_37 : decode cX2_spell 37 = .ok (.istore_n 3, 1) := by decide +kernel
theorem dX2_spell_38 : decode cX2_spell 38 = .ok (.iload_n 2, 1) := by decide +kernel
theorem dX2_spell_39 : decode cX2_spell 39 = .ok (.iconst 1, 1) := by decide +kernel
theorem dX2_spell_40 : decode cX2_spell 40 = .ok (.iload 5, 2) := by decide +kernel
theorem dX2_spell_42 : decode cX2_spell 42 = .ok (.ishl, 1) := by decide +kernel
theorem dX2_spell_43 : decode cX2_spell 43 = .ok (.iconst (-1), 1) := by decide +kernel
theorem dX2_spell_44 : decode cX2_spell 44 = .ok (.ixor, 1) := by decide +kernel
theorem dX2_spell_45 : decode cX2_spell 45 = .ok (.iand, 1) := by decide +kernel
theorem dX2_spell_46 : decode cX2_spell 46 = .ok (.istore_n 2, 1) := by decide +kernel
theorem dX2_spell_47 : decode cX2_spell 47 = .ok (.aload_n 0, 1) := by decide +kernel
theorem dX2_spell_48 : decode cX2_spell 48 = .ok (.getfield 9, 3) := by decide +kernel
theorem dX2_spell_51 : decode cX2_spell 51 = .ok (.iload_n 1, 1) := by decide +kernel
theorem dX2_spell_52 : decode cX2_spell 52 = .ok (.bipush 6, 2) := by decide +kernel
theorem dX2_spell_54 : decode cX2_spell 54 = .ok (.imul, 1) := by decide +kernel
theorem dX2_spell_55 : decode cX2_spell 55 = .ok (.iload 4, 2) := by decide +kernel
theorem dX2_spell_57 : decode cX2_spell 57 = .ok (.iadd, 1) := by decide +kernel
theorem dX2_spell_58 : decode cX2_spell 58 = .ok (.iload 5, 2) := by decide +kernel
theorem dX2_spell_60 : decode cX2_spell 60 = .ok (.iastore, 1) := by decide +kernel
theorem dX2_spell_61 : decode cX2_spell 61 = .ok (.aload_n 0, 1) := by decide +kernel
theorem dX2_spell_62 : decode cX2_spell 62 = .ok (.getfield 15, 3) := by decide +kernel
theorem dX2_spell_65 : decode cX2_spell 65 = .ok (.iload_n 1, 1) := by decide +kernel
theorem dX2_spell_66 : decode cX2_spell 66 = .ok (.bipush 6, 2) := by decide +kernel
theorem dX2_spell_68 : decode cX2_spell 68 = .ok (.imul, 1) := by decide +kernel
theorem dX2_spell_69 : decode cX2_spell 69 = .ok (.iload 5, 2) := by decide +kernel
theorem dX2_spell_71 : decode cX2_spell 71 = .ok (.iadd, 1) := by decide +kernel
theorem dX2_spell_72 : decode cX2_spell 72 = .ok (.iload 4, 2) := by decide +kernel
theorem dX2_spell_74 : decode cX2_spell 74 = .ok (.iastore, 1) := by decide +kernel
theorem dX2_spell_75 : decode cX2_spell 75 = .ok (.iinc 4 1, 3) := by decide +kernel
theorem dX2_spell_78 : decode cX2_spell 78 = .ok (.goto (-70), 3) := by decide +kernel
theorem dX2_spell_81 : decode cX2_spell 81 = .ok (.return_, 1) := by decide +kernel
theorem dX2_leftSign_0 : decode cX2_leftSign 0 = .ok (.iconst 0, 1) := by decide +kernel
theorem dX2_leftSign_1 : decode cX2_leftSign 1 = .ok (.istore_n 2, 1) := by decide +kernel
theorem dX2_leftSign_2 : decode cX2_leftSign 2 = .ok (.iconst 0, 1) := by decide +kernel
theorem dX2_leftSign_3 : decode cX2_leftSign 3 = .ok (.istore_n 3, 1) := by decide +kernel
theorem dX2_leftSign_4 : decode cX2_leftSign 4 = .ok (.iload_n 3, 1) := by decide +kernel
theorem dX2_leftSign_5 : decode cX2_leftSign 5 = .ok (.bipush 6, 2) := by decide +kernel
theorem dX2_leftSign_7 : decode cX2_leftSign 7 = .ok (.if_icmp .ge 28, 3) := by decide +kernel
theorem dX2_leftSign_10 : decode cX2_leftSign 10 = .ok (.iload_n 0, 1) := by decide +kernel
theorem dX2_leftSign_11 : decode cX2_leftSign 11 = .ok (.iload_n 3, 1) := by decide +kernel
theorem dX2_leftSign_12 : decode cX2_leftSign 12 = .ok (.ishr, 1) := by decide +kernel
theorem dX2_leftSign_13 : decode cX2_leftSign 13 = .ok (.iconst 1, 1) := by decide +kernel
theorem dX2_leftSign_14 : decode cX2_leftSign 14 = .ok (.iand, 1) := by decide +kernel
theorem dX2_leftSign_15 : decode cX2_leftSign 15 = .ok (.iconst 1, 1) := by decide +kernel
theorem dX2_leftSign_16 : decode cX2_leftSign 16 = .ok (.if_icmp .ne 13, 3) := by decide +kernel
theorem dX2_leftSign_19 : decode cX2_leftSign 19 = .ok (.iload_n 2, 1) := by decide +kernel
theorem dX2_leftSign_20 : decode cX2_leftSign 20 = .ok (.iload_n 1, 1) := by decide +kernel
theorem dX2_leftSign_21 : decode cX2_leftSign 21 = .ok (.if_icmp .ne 5, 3) := by decide +kernel
theorem dX2_leftSign_24 : decode cX2_leftSign 24 = .ok (.iload_n 3, 1) := by decide +kernel
theorem dX2_leftSign_25 : decode cX2_leftSign 25 = .ok (.ireturn, 1) := by decide +kernel
theorem dX2_leftSign_26 : decode cX2_leftSign 26 = .ok (.iinc 2 1, 3) := by decide +kernel
theorem dX2_leftSign_29 : decode cX2_leftSign 29 = .ok (.iinc 3 1, 3) := by decide +kernel
theorem dX2_leftSign_32 : decode cX2_leftSign 32 = .ok (.goto (-28), 3) := by decide +kernel
theorem dX2_leftSign_35 : decode cX2_leftSign 35 = .ok (.iconst 5, 1) := by decide +kernel
theorem dX2_leftSign_36 : decode cX2_leftSign 36 = .ok (.ireturn, 1) := by decide +kernel
theorem dX2_link_0 : decode cX2_link 0 = .ok (.aload_n 0, 1) := by decide +kernel
theorem dX2_link_1 : decode cX2_link 1 = .ok (.iload_n 1, 1) := by decide +kernel
theorem dX2_link_2 : decode cX2_link 2 = .ok (.iconst 5, 1) := by decide +kernel
theorem dX2_link_3 : decode cX2_link 3 = .ok (.invokevirtual 47, 3) := by decide +kernel
theorem dX2_link_6 : decode cX2_link 6 = .ok (.istore_n 2, 1) := by decide +kernel
theorem dX2_link_7 : decode cX2_link 7 = .ok (.iconst 0, 1) := by decide +kernel
theorem dX2_link_8 : decode cX2_link 8 = .ok (.istore_n 3, 1) := by decide +kernel
theorem dX2_link_9 : decode cX2_link 9 = .ok (.iload_n 3, 1) := by decide +kernel
theorem dX2_link_10 : decode cX2_link 10 = .ok (.bipush 6, 2) := by decide +kernel
theorem dX2_link_12 : decode cX2_link 12 = .ok (.if_icmp .ge 87, 3) := by decide +kernel
theorem dX2_link_15 : decode cX2_link 15 = .ok (.aload_n 0, 1) := by decide +kernel
theorem dX2_link_16 : decode cX2_link 16 = .ok (.iload_n 1, 1) := by decide +kernel
theorem dX2_link_17 : decode cX2_link 17 = .ok (.iload_n 3, 1) := by decide +kernel
theorem dX2_link_18 : decode cX2_link 18 = .ok (.invokevirtual 47, 3) := by decide +kernel
theorem dX2_link_21 : decode cX2_link 21 = .ok (.istore 4, 2) := by decide +kernel
theorem dX2_link_23 : decode cX2_link 23 = .ok (.iload 4, 2) := by decide +kernel
theorem dX2_link_25 : decode cX2_link 25 = .ok (.iload_n 2, 1) := by decide +kernel
theorem dX2_link_26 : decode cX2_link 26 = .ok (.invokestatic 50, 3) := by decide +kernel
theorem dX2_link_29 : decode cX2_link 29 = .ok (.istore 5, 2) := by decide +kernel
theorem dX2_link_31 : decode cX2_link 31 = .ok (.aload_n 0, 1) := by decide +kernel
theorem dX2_link_32 : decode cX2_link 32 = .ok (.getfield 18, 3) := by decide +kernel
theorem dX2_link_35 : decode cX2_link 35 = .ok (.iload_n 1, 1) := by decide +kernel
theorem dX2_link_36 : decode cX2_link 36 = .ok (.bipush 6, 2) := by decide +kernel
theorem dX2_link_38 : decode cX2_link 38 = .ok (.imul, 1) := by decide +kernel
theorem dX2_link_39 : decode cX2_link 39 = .ok (.iload_n 3, 1) := by decide +kernel
theorem dX2_link_40 : decode cX2_link 40 = .ok (.iadd, 1) := by decide +kernel
theorem dX2_link_41 : decode cX2_link 41 = .ok (.iload 5, 2) := by decide +kernel
theorem dX2_link_43 : decode cX2_link 43 = .ok (.ifCond .eq 14, 3) := by decide +kernel
theorem dX2_link_46 : decode cX2_link 46 = .ok (.aload_n 0, 1) := by decide +kernel
theorem dX2_link_47 : decode cX2_link 47 = .ok (.iload_n 1, 1) := by decide +kernel
theorem dX2_link_48 : decode cX2_link 48 = .ok (.iload 4, 2) := by decide +kernel
theorem dX2_link_50 : decode cX2_link 50 = .ok (.iload_n 2, 1) := by decide +kernel
theorem dX2_link_51 : decode cX2_link 51 = .ok (.invokevirtual 54, 3) := by decide +kernel
theorem dX2_link_54 : decode cX2_link 54 = .ok (.goto 4, 3) := by decide +kernel
theorem dX2_link_57 : decode cX2_link 57 = .ok (.iconst (-1), 1) := by decide +kernel
theorem dX2_link_58 : decode cX2_link 58 = .ok (.iastore, 1) := by decide +kernel
theorem dX2_link_59 : decode cX2_link 59 = .ok (.aload_n 0, 1) := by decide +kernel
theorem dX2_link_60 : decode cX2_link 60 = .ok (.getfield 21, 3) := by decide +kernel
theorem dX2_link_63 : decode cX2_link 63 = .ok (.iload_n 1, 1) := by decide +kernel
theorem dX2_link_64 : decode cX2_link 64 = .ok (.bipush 6, 2) := by decide +kernel
theorem dX2_link_66 : decode cX2_link 66 = .ok (.imul, 1) := by decide +kernel
theorem dX2_link_67 : decode cX2_link 67 = .ok (.iload_n 3, 1) := by decide +kernel
theorem dX2_link_68 : decode cX2_link 68 = .ok (.iadd, 1) := by decide +kernel
theorem dX2_link_69 : decode cX2_link 69 = .ok (.iload 5, 2) := by decide +kernel
theorem dX2_link_71 : decode cX2_link 71 = .ok (.ifCond .ne 7, 3) := by decide +kernel
theorem dX2_link_74 : decode cX2_link 74 = .ok (.iconst (-1), 1) := by decide +kernel
theorem dX2_link_75 : decode cX2_link 75 = .ok (.goto 17, 3) := by decide +kernel
theorem dX2_link_78 : decode cX2_link 78 = .ok (.iload 4, 2) := by decide +kernel
theorem dX2_link_80 : decode cX2_link 80 = .ok (.iload_n 2, 1) := by decide +kernel
theorem dX2_link_81 : decode cX2_link 81 = .ok (.invokestatic 58, 3) := by decide +kernel
theorem dX2_link_84 : decode cX2_link 84 = .ok (.ifCond .eq 7, 3) := by decide +kernel
theorem dX2_link_87 : decode cX2_link 87 = .ok (.iconst 0, 1) := by decide +kernel
theorem dX2_link_88 : decode cX2_link 88 = .ok (.goto 4, 3) := by decide +kernel
theorem dX2_link_91 : decode cX2_link 91 = .ok (.iconst 1, 1) := by decide +kernel
theorem dX2_link_92 : decode cX2_link 92 = .ok (.iastore, 1) := by decide +kernel
theorem dX2_link_93 : decode cX2_link 93 = .ok (.iinc 3 1, 3) := by decide +kernel
theorem dX2_link_96 : decode cX2_link 96 = .ok (.goto (-87), 3) := by decide +kernel
theorem dX2_link_99 : decode cX2_link 99 = .ok (.return_, 1) := by decide +kernel
theorem dX2_read_0 : decode cX2_read 0 = .ok (.iload_n 1, 1) := by decide +kernel
theorem dX2_read_1 : decode cX2_read 1 = .ok (.ifCond .lt 24, 3) := by decide +kernel
theorem dX2_read_4 : decode cX2_read 4 = .ok (.iload_n 1, 1) := by decide +kernel
theorem dX2_read_5 : decode cX2_read 5 = .ok (.sipush 720, 3) := by decide +kernel
theorem dX2_read_8 : decode cX2_read 8 = .ok (.if_icmp .ge 17, 3) := by decide +kernel
theorem dX2_read_11 : decode cX2_read 11 = .ok (.iload_n 2, 1) := by decide +kernel
theorem dX2_read_12 : decode cX2_read 12 = .ok (.ifCond .lt 13, 3) := by decide +kernel
theorem dX2_read_15 : decode cX2_read 15 = .ok (.iload_n 2, 1) := by decide +kernel
theorem dX2_read_16 : decode cX2_read 16 = .ok (.bipush 6, 2) := by decide +kernel
theorem dX2_read_18 : decode cX2_read 18 = .ok (.if_icmp .ge 7, 3) := by decide +kernel
theorem dX2_read_21 : decode cX2_read 21 = .ok (.iconst 1, 1) := by decide +kernel
theorem dX2_read_22 : decode cX2_read 22 = .ok (.goto 4, 3) := by decide +kernel
theorem dX2_read_25 : decode cX2_read 25 = .ok (.iconst 0, 1) := by decide +kernel
theorem dX2_read_26 : decode cX2_read 26 = .ok (.istore_n 3, 1) := by decide +kernel
theorem dX2_read_27 : decode cX2_read 27 = .ok (.iload_n 3, 1) := by decide +kernel
theorem dX2_read_28 : decode cX2_read 28 = .ok (.ifCond .eq 14, 3) := by decide +kernel
theorem dX2_read_31 : decode cX2_read 31 = .ok (.aload_n 0, 1) := by decide +kernel
theorem dX2_read_32 : decode cX2_read 32 = .ok (.iload_n 1, 1) := by decide +kernel
theorem dX2_read_33 : decode cX2_read 33 = .ok (.bipush 6, 2) := by decide +kernel
theorem dX2_read_35 : decode cX2_read 35 = .ok (.imul, 1) := by decide +kernel
theorem dX2_read_36 : decode cX2_read 36 = .ok (.iload_n 2, 1) := by decide +kernel
theorem dX2_read_37 : decode cX2_read 37 = .ok (.iadd, 1) := by decide +kernel
theorem dX2_read_38 : decode cX2_read 38 = .ok (.iaload, 1) := by decide +kernel
theorem dX2_read_39 : decode cX2_read 39 = .ok (.goto 4, 3) := by decide +kernel
theorem dX2_read_42 : decode cX2_read 42 = .ok (.iconst (-1), 1) := by decide +kernel
theorem dX2_read_43 : decode cX2_read 43 = .ok (.ireturn, 1) := by decide +kernel
theorem dX2_sign_0 : decode cX2_sign 0 = .ok (.aload_n 0, 1) := by decide +kernel
theorem dX2_sign_1 : decode cX2_sign 1 = .ok (.getfield 9, 3) := by decide +kernel
theorem dX2_sign_4 : decode cX2_sign 4 = .ok (.iload_n 1, 1) := by decide +kernel
theorem dX2_sign_5 : decode cX2_sign 5 = .ok (.iload_n 2, 1) := by decide +kernel
theorem dX2_sign_6 : decode cX2_sign 6 = .ok (.invokestatic 61, 3) := by decide +kernel
theorem dX2_sign_9 : decode cX2_sign 9 = .ok (.ireturn, 1) := by decide +kernel
theorem dX2_place_0 : decode cX2_place 0 = .ok (.aload_n 0, 1) := by decide +kernel
theorem dX2_place_1 : decode cX2_place 1 = .ok (.getfield 15, 3) := by decide +kernel
theorem dX2_place_4 : decode cX2_place 4 = .ok (.iload_n 1, 1) := by decide +kernel
theorem dX2_place_5 : decode cX2_place 5 = .ok (.iload_n 2, 1) := by decide +kernel
theorem dX2_place_6 : decode cX2_place 6 = .ok (.invokestatic 61, 3) := by decide +kernel
theorem dX2_place_9 : decode cX2_place 9 = .ok (.ireturn, 1) := by decide +kernel
theorem dX2_pushed_0 : decode cX2_pushed 0 = .ok (.aload_n 0, 1) := by decide +kernel
theorem dX2_pushed_1 : decode cX2_pushed 1 = .ok (.getfield 18, 3) := by decide +kernel
theorem dX2_pushed_4 : decode cX2_pushed 4 = .ok (.iload_n 1, 1) := by decide +kernel
theorem dX2_pushed_5 : decode cX2_pushed 5 = .ok (.iload_n 2, 1) := by decide +kernel
theorem dX2_pushed_6 : decode cX2_pushed 6 = .ok (.invokestatic 61, 3) := by decide +kernel
theorem dX2_pushed_9 : decode cX2_pushed 9 = .ok (.ireturn, 1) := by decide +kernel
theorem dX2_exchanged_0 : decode cX2_exchanged 0 = .ok (.iconst 0, 1) := by decide +kernel
theorem dX2_exchanged_1 : decode cX2_exchanged 1 = .ok (.istore 4, 2) := by decide +kernel
theorem dX2_exchanged_3 : decode cX2_exchanged 3 = .ok (.iload 4, 2) := by decide +kernel
theorem dX2_exchanged_5 : decode cX2_exchanged 5 = .ok (.bipush 6, 2) := by decide +kernel
theorem dX2_exchanged_7 : decode cX2_exchanged 7 = .ok (.if_icmp .ge 47, 3) := by decide +kernel
theorem dX2_exchanged_10 : decode cX2_exchanged 10 = .ok (.iload 4, 2) := by decide +kernel
theorem dX2_exchanged_12 : decode cX2_exchanged 12 = .ok (.iload_n 2, 1) := by decide +kernel
theorem dX2_exchanged_13 : decode cX2_exchanged 13 = .ok (.if_icmp .ne 7, 3) := by decide +kernel
theorem dX2_exchanged_16 : decode cX2_exchanged 16 = .ok (.iload_n 3, 1) := by decide +kernel
theorem dX2_exchanged_17 : decode cX2_exchanged 17 = .ok (.goto 15, 3) := by decide +kernel
theorem dX2_exchanged_20 : decode cX2_exchanged 20 = .ok (.iload 4, 2) := by decide +kernel
theorem dX2_exchanged_22 : decode cX2_exchanged 22 = .ok (.iload_n 3, 1) := by decide +kernel
theorem dX2_exchanged_23 : decode cX2_exchanged 23 = .ok (.if_icmp .ne 7, 3) := by decide +kernel
theorem dX2_exchanged_26 : decode cX2_exchanged 26 = .ok (.iload_n 2, 1) := by decide +kernel
theorem dX2_exchanged_27 : decode cX2_exchanged 27 = .ok (.goto 5, 3) := by decide +kernel
theorem dX2_exchanged_30 : decode cX2_exchanged 30 = .ok (.iload 4, 2) := by decide +kernel
theorem dX2_exchanged_32 : decode cX2_exchanged 32 = .ok (.istore 5, 2) := by decide +kernel
theorem dX2_exchanged_34 : decode cX2_exchanged 34 = .ok (.aload_n 0, 1) := by decide +kernel
theorem dX2_exchanged_35 : decode cX2_exchanged 35 = .ok (.getfield 24, 3) := by decide +kernel
theorem dX2_exchanged_38 : decode cX2_exchanged 38 = .ok (.iload 4, 2) := by decide +kernel
theorem dX2_exchanged_40 : decode cX2_exchanged 40 = .ok (.aload_n 0, 1) := by decide +kernel
theorem dX2_exchanged_41 : decode cX2_exchanged 41 = .ok (.iload_n 1, 1) := by decide +kernel
theorem dX2_exchanged_42 : decode cX2_exchanged 42 = .ok (.iload 5, 2) := by decide +kernel
theorem dX2_exchanged_44 : decode cX2_exchanged 44 = .ok (.invokevirtual 65, 3) := by decide +kernel
theorem dX2_exchanged_47 : decode cX2_exchanged 47 = .ok (.iastore, 1) := by decide +kernel
theorem dX2_exchanged_48 : decode cX2_exchanged 48 = .ok (.iinc 4 1, 3) := by decide +kernel
theorem dX2_exchanged_51 : decode cX2_exchanged 51 = .ok (.goto (-48), 3) := by decide +kernel
theorem dX2_exchanged_54 : decode cX2_exchanged 54 = .ok (.aload_n 0, 1) := by decide +kernel
theorem dX2_exchanged_55 : decode cX2_exchanged 55 = .ok (.getfield 24, 3) := by decide +kernel
theorem dX2_exchanged_58 : decode cX2_exchanged 58 = .ok (.invokestatic 68, 3) := by decide +kernel
theorem dX2_exchanged_61 : decode cX2_exchanged 61 = .ok (.ireturn, 1) := by decide +kernel
theorem dX2_price_0 : decode cX2_price 0 = .ok (.aload_n 0, 1) := by decide +kernel
theorem dX2_price_1 : decode cX2_price 1 = .ok (.getfield 21, 3) := by decide +kernel
theorem dX2_price_4 : decode cX2_price 4 = .ok (.iload_n 1, 1) := by decide +kernel
theorem dX2_price_5 : decode cX2_price 5 = .ok (.iload_n 2, 1) := by decide +kernel
theorem dX2_price_6 : decode cX2_price 6 = .ok (.invokestatic 61, 3) := by decide +kernel
theorem dX2_price_9 : decode cX2_price 9 = .ok (.istore 4, 2) := by decide +kernel
theorem dX2_price_11 : decode cX2_price 11 = .ok (.iload 4, 2) := by decide +kernel
theorem dX2_price_13 : decode cX2_price 13 = .ok (.iconst (-1), 1) := by decide +kernel
theorem dX2_price_14 : decode cX2_price 14 = .ok (.if_icmp .ne 5, 3) := by decide +kernel
theorem dX2_price_17 : decode cX2_price 17 = .ok (.iconst (-1), 1) := by decide +kernel
theorem dX2_price_18 : decode cX2_price 18 = .ok (.ireturn, 1) := by decide +kernel
theorem dX2_price_19 : decode cX2_price 19 = .ok (.getstatic 72, 3) := by decide +kernel
theorem dX2_price_22 : decode cX2_price 22 = .ok (.iload_n 3, 1) := by decide +kernel
theorem dX2_price_23 : decode cX2_price 23 = .ok (.iload_n 2, 1) := by decide +kernel
theorem dX2_price_24 : decode cX2_price 24 = .ok (.invokestatic 76, 3) := by decide +kernel
theorem dX2_price_27 : decode cX2_price 27 = .ok (.aaload, 1) := by decide +kernel
theorem dX2_price_28 : decode cX2_price 28 = .ok (.iload 4, 2) := by decide +kernel
theorem dX2_price_30 : decode cX2_price 30 = .ok (.invokevirtual 79, 3) := by decide +kernel
theorem dX2_price_33 : decode cX2_price 33 = .ok (.istore 5, 2) := by decide +kernel
theorem dX2_price_35 : decode cX2_price 35 = .ok (.iload 5, 2) := by decide +kernel
theorem dX2_price_37 : decode cX2_price 37 = .ok (.ifCond .ne 7, 3) := by decide +kernel
theorem dX2_price_40 : decode cX2_price 40 = .ok (.iconst (-1), 1) := by decide +kernel
theorem dX2_price_41 : decode cX2_price 41 = .ok (.goto 5, 3) := by decide +kernel
theorem dX2_price_44 : decode cX2_price 44 = .ok (.iload 5, 2) := by decide +kernel
theorem dX2_price_46 : decode cX2_price 46 = .ok (.ireturn, 1) := by decide +kernel
theorem dX2_choices_0 : decode cX2_choices 0 = .ok (.iconst 0, 1) := by decide +kernel
theorem dX2_choices_1 : decode cX2_choices 1 = .ok (.istore_n 3, 1) := by decide +kernel
theorem dX2_choices_2 : decode cX2_choices 2 = .ok (.iconst 0, 1) := by decide +kernel
theorem dX2_choices_3 : decode cX2_choices 3 = .ok (.istore 4, 2) := by decide +kernel
theorem dX2_choices_5 : decode cX2_choices 5 = .ok (.iload 4, 2) := by decide +kernel
theorem dX2_choices_7 : decode cX2_choices 7 = .ok (.iconst 5, 1) := by decide +kernel
theorem dX2_choices_8 : decode cX2_choices 8 = .ok (.if_icmp .ge 24, 3) := by decide +kernel
theorem dX2_choices_11 : decode cX2_choices 11 = .ok (.aload_n 0, 1) := by decide +kernel
theorem dX2_choices_12 : decode cX2_choices 12 = .ok (.iload_n 1, 1) := by decide +kernel
theorem dX2_choices_13 : decode cX2_choices 13 = .ok (.iload 4, 2) := by decide +kernel
theorem dX2_choices_15 : decode cX2_choices 15 = .ok (.iload_n 2, 1) := by decide +kernel
theorem dX2_choices_16 : decode cX2_choices 16 = .ok (.invokevirtual 84, 3) := by decide +kernel
theorem dX2_choices_19 : decode cX2_choices 19 = .ok (.iconst (-1), 1) := by decide +kernel
theorem dX2_choices_20 : decode cX2_choices 20 = .ok (.if_icmp .eq 6, 3) := by decide +kernel
theorem dX2_choices_23 : decode cX2_choices 23 = .ok (.iinc 3 1, 3) := by decide +kernel
theorem dX2_choices_26 : decode cX2_choices 26 = .ok (.iinc 4 1, 3) := by decide +kernel
theorem dX2_choices_29 : decode cX2_choices 29 = .ok (.goto (-24), 3) := by decide +kernel
theorem dX2_choices_32 : decode cX2_choices 32 = .ok (.iload_n 3, 1) := by decide +kernel
theorem dX2_choices_33 : decode cX2_choices 33 = .ok (.ireturn, 1) := by decide +kernel
theorem dX2_choice_0 : decode cX2_choice 0 = .ok (.iconst 0, 1) := by decide +kernel
theorem dX2_choice_1 : decode cX2_choice 1 = .ok (.istore 4, 2) := by decide +kernel
theorem dX2_choice_3 : decode cX2_choice 3 = .ok (.iconst 0, 1) := by decide +kernel
theorem dX2_choice_4 : decode cX2_choice 4 = .ok (.istore 5, 2) := by decide +kernel
theorem dX2_choice_6 : decode cX2_choice 6 = .ok (.iload 5, 2) := by decide +kernel
theorem dX2_choice_8 : decode cX2_choice 8 = .ok (.iconst 5, 1) := by decide +kernel
theorem dX2_choice_9 : decode cX2_choice 9 = .ok (.if_icmp .ge 33, 3) := by decide +kernel
theorem dX2_choice_12 : decode cX2_choice 12 = .ok (.aload_n 0, 1) := by decide +kernel
theorem dX2_choice_13 : decode cX2_choice 13 = .ok (.iload_n 1, 1) := by decide +kernel
theorem dX2_choice_14 : decode cX2_choice 14 = .ok (.iload 5, 2) := by decide +kernel
theorem dX2_choice_16 : decode cX2_choice 16 = .ok (.iload_n 2, 1) := by decide +kernel
theorem dX2_choice_17 : decode cX2_choice 17 = .ok (.invokevirtual 84, 3) := by decide +kernel
theorem dX2_choice_20 : decode cX2_choice 20 = .ok (.iconst (-1), 1) := by decide +kernel
theorem dX2_choice_21 : decode cX2_choice 21 = .ok (.if_icmp .eq 15, 3) := by decide +kernel
theorem dX2_choice_24 : decode cX2_choice 24 = .ok (.iload 4, 2) := by decide +kernel
theorem dX2_choice_26 : decode cX2_choice 26 = .ok (.iload_n 3, 1) := by decide +kernel
theorem dX2_choice_27 : decode cX2_choice 27 = .ok (.if_icmp .ne 6, 3) := by decide +kernel
theorem dX2_choice_30 : decode cX2_choice 30 = .ok (.iload 5, 2) := by decide +kernel
theorem dX2_choice_32 : decode cX2_choice 32 = .ok (.ireturn, 1) := by decide +kernel
theorem dX2_choice_33 : decode cX2_choice 33 = .ok (.iinc 4 1, 3) := by decide +kernel
theorem dX2_choice_36 : decode cX2_choice 36 = .ok (.iinc 5 1, 3) := by decide +kernel
theorem dX2_choice_39 : decode cX2_choice 39 = .ok (.goto (-33), 3) := by decide +kernel
theorem dX2_choice_42 : decode cX2_choice 42 = .ok (.iconst (-1), 1) := by decide +kernel
theorem dX2_choice_43 : decode cX2_choice 43 = .ok (.ireturn, 1) := by decide +kernel
theorem dX3_init_0 : decode cX3_init 0 = .ok (.aload_n 0, 1) := by decide +kernel
theorem dX3_init_1 : decode cX3_init 1 = .ok (.invokespecial 3, 3) := by decide +kernel
theorem dX3_init_4 : decode cX3_init 4 = .ok (.aload_n 0, 1) := by decide +kernel
theorem dX3_init_5 : decode cX3_init 5 = .ok (.sipush 720, 3) := by decide +kernel
theorem dX3_init_8 : decode cX3_init 8 = .ok (.newarray .int, 2) := by decide +kernel
theorem dX3_init_10 : decode cX3_init 10 = .ok (.putfield 9, 3) := by decide +kernel
theorem dX3_init_13 : decode cX3_init 13 = .ok (.aload_n 0, 1) := by decide +kernel
theorem dX3_init_14 : decode cX3_init 14 = .ok (.sipush 720, 3) := by decide +kernel
theorem dX3_init_17 : decode cX3_init 17 = .ok (.newarray .int, 2) := by decide +kernel
theorem dX3_init_19 : decode cX3_init 19 = .ok (.putfield 15, 3) := by decide +kernel
theorem dX3_init_22 : decode cX3_init 22 = .ok (.aload_n 0, 1) := by decide +kernel
theorem dX3_init_23 : decode cX3_init 23 = .ok (.iconst (-1), 1) := by decide +kernel
theorem dX3_init_24 : decode cX3_init 24 = .ok (.putfield 18, 3) := by decide +kernel
theorem dX3_init_27 : decode cX3_init 27 = .ok (.aload_n 0, 1) := by decide +kernel
theorem dX3_init_28 : decode cX3_init 28 = .ok (.iconst (-1), 1) := by decide +kernel
theorem dX3_init_29 : decode cX3_init 29 = .ok (.putfield 22, 3) := by decide +kernel
theorem dX3_init_32 : decode cX3_init 32 = .ok (.aload_n 0, 1) := by decide +kernel
theorem dX3_init_33 : decode cX3_init 33 = .ok (.aload_n 1, 1) := by decide +kernel
theorem dX3_init_34 : decode cX3_init 34 = .ok (.putfield 25, 3) := by decide +kernel
theorem dX3_init_37 : decode cX3_init 37 = .ok (.return_, 1) := by decide +kernel
theorem dX3_searchFrom_0 : decode cX3_searchFrom 0 = .ok (.iload_n 1, 1) := by decide +kernel
theorem dX3_searchFrom_1 : decode cX3_searchFrom 1 = .ok (.aload_n 0, 1) := by decide +kernel
theorem dX3_searchFrom_2 : decode cX3_searchFrom 2 = .ok (.getfield 18, 3) := by decide +kernel
theorem dX3_searchFrom_5 : decode cX3_searchFrom 5 = .ok (.if_icmp .ne 12, 3) := by decide +kernel
theorem dX3_searchFrom_8 : decode cX3_searchFrom 8 = .ok (.iload_n 2, 1) := by decide +kernel
theorem dX3_searchFrom_9 : decode cX3_searchFrom 9 = .ok (.aload_n 0, 1) := by decide +kernel
theorem dX3_searchFrom_10 : decode cX3_searchFrom 10 = .ok (.getfield 22, 3) := by decide +kernel
theorem dX3_searchFrom_13 : decode cX3_searchFrom 13 = .ok (.if_icmp .ne 4, 3) := by decide +kernel
theorem dX3_searchFrom_16 : decode cX3_searchFrom 16 = .ok (.return_, 1) := by decide +kernel
theorem dX3_searchFrom_17 : decode cX3_searchFrom 17 = .ok (.aload_n 0, 1) := by decide +kernel
theorem dX3_searchFrom_18 : decode cX3_searchFrom 18 = .ok (.iload_n 1, 1) := by decide +kernel
theorem dX3_searchFrom_19 : decode cX3_searchFrom 19 = .ok (.putfield 18, 3) := by decide +kernel
theorem dX3_searchFrom_22 : decode cX3_searchFrom 22 = .ok (.aload_n 0, 1) := by decide +kernel
theorem dX3_searchFrom_23 : decode cX3_searchFrom 23 = .ok (.iload_n 2, 1) := by decide +kernel
theorem dX3_searchFrom_24 : decode cX3_searchFrom 24 = .ok (.putfield 22, 3) := by decide +kernel
theorem dX3_searchFrom_27 : decode cX3_searchFrom 27 = .ok (.aload_n 0, 1) := by decide +kernel
theorem dX3_searchFrom_28 : decode cX3_searchFrom 28 = .ok (.iconst 0, 1) := by decide +kernel
theorem dX3_searchFrom_29 : decode cX3_searchFrom 29 = .ok (.putfield 29, 3) := by decide +kernel
theorem dX3_searchFrom_32 : decode cX3_searchFrom 32 = .ok (.aload_n 0, 1) := by decide +kernel
theorem dX3_searchFrom_33 : decode cX3_searchFrom 33 = .ok (.iconst 0, 1) := by decide +kernel
theorem dX3_searchFrom_34 : decode cX3_searchFrom 34 = .ok (.putfield 32, 3) := by decide +kernel
theorem dX3_searchFrom_37 : decode cX3_searchFrom 37 = .ok (.aload_n 0, 1) := by decide +kernel
theorem dX3_searchFrom_38 : decode cX3_searchFrom 38 = .ok (.getfield 9, 3) := by decide +kernel
theorem dX3_searchFrom_41 : decode cX3_searchFrom 41 = .ok (.iconst (-1), 1) := by decide +kernel
theorem dX3_searchFrom_42 : decode cX3_searchFrom 42 = .ok (.invokestatic 35, 3) := by decide +kernel
theorem dX3_searchFrom_45 : decode cX3_searchFrom 45 = .ok (.aload_n 0, 1) := by decide +kernel
theorem dX3_searchFrom_46 : decode cX3_searchFrom 46 = .ok (.iload_n 1, 1) := by decide +kernel
theorem dX3_searchFrom_47 : decode cX3_searchFrom 47 = .ok (.iconst 0, 1) := by decide +kernel
theorem dX3_searchFrom_48 : decode cX3_searchFrom 48 = .ok (.invokevirtual 41, 3) := by decide +kernel
theorem dX3_searchFrom_51 : decode cX3_searchFrom 51 = .ok (.iconst 0, 1) := by decide +kernel
theorem dX3_searchFrom_52 : decode cX3_searchFrom 52 = .ok (.istore_n 3, 1) := by decide +kernel
theorem dX3_searchFrom_53 : decode cX3_searchFrom 53 = .ok (.iload_n 3, 1) := by decide +kernel
theorem dX3_searchFrom_54 : decode cX3_searchFrom 54 = .ok (.sipush 2160, 3) := by decide +kernel
theorem dX3_searchFrom_57 : decode cX3_searchFrom 57 = .ok (.if_icmp .ge 66, 3) := by decide +kernel
theorem dX3_searchFrom_60 : decode cX3_searchFrom 60 = .ok (.iload_n 3, 1) := by decide +kernel
theorem dX3_searchFrom_61 : decode cX3_searchFrom 61 = .ok (.aload_n 0, 1) := by decide +kernel
theorem dX3_searchFrom_62 : decode cX3_searchFrom 62 = .ok (.getfield 32, 3) := by decide +kernel
theorem dX3_searchFrom_65 : decode cX3_searchFrom 65 = .ok (.if_icmp .gt 58, 3) := by decide +kernel
theorem dX3_searchFrom_68 : decode cX3_searchFrom 68 = .ok (.aload_n 0, 1) := by decide +kernel
theorem dX3_searchFrom_69 : decode cX3_searchFrom 69 = .ok (.getfield 29, 3) := by decide +kernel
theorem dX3_searchFrom_72 : decode cX3_searchFrom 72 = .ok (.istore 4, 2) := by decide +kernel
theorem dX3_searchFrom_74 : decode cX3_searchFrom 74 = .ok (.iconst 0, 1) := by decide +kernel
theorem dX3_searchFrom_75 : decode cX3_searchFrom 75 = .ok (.istore 5, 2) := by decide +kernel
theorem dX3_searchFrom_77 : decode cX3_searchFrom 77 = .ok (.iload 5, 2) := by decide +kernel
theorem dX3_searchFrom_79 : decode cX3_searchFrom 79 = .ok (.iload 4, 2) := by decide +kernel
theorem dX3_searchFrom_81 : decode cX3_searchFrom 81 = .ok (.if_icmp .ge 36, 3) := by decide +kernel
theorem dX3_searchFrom_84 : decode cX3_searchFrom 84 = .ok (.aload_n 0, 1) := by decide +kernel
theorem dX3_searchFrom_85 : decode cX3_searchFrom 85 = .ok (.aload_n 0, 1) := by decide +kernel
theorem dX3_searchFrom_86 : decode cX3_searchFrom 86 = .ok (.getfield 15, 3) := by decide +kernel
theorem dX3_searchFrom_89 : decode cX3_searchFrom 89 = .ok (.iload 5, 2) := by decide +kernel
theorem dX3_searchFrom_91 : decode cX3_searchFrom 91 = .ok (.iaload, 1) := by decide +kernel
theorem dX3_searchFrom_92 : decode cX3_searchFrom 92 = .ok (.invokevirtual 45, 3) := by decide +kernel
theorem dX3_searchFrom_95 : decode cX3_searchFrom 95 = .ok (.iload_n 3, 1) := by decide +kernel
theorem dX3_searchFrom_96 : decode cX3_searchFrom 96 = .ok (.if_icmp .ne 15, 3) := by decide +kernel
theorem dX3_searchFrom_99 : decode cX3_searchFrom 99 = .ok (.aload_n 0, 1) := by decide +kernel
theorem dX3_searchFrom_100 : decode cX3_searchFrom 100 = .ok (.aload_n 0, 1) := by decide +kernel
theorem dX3_searchFrom_101 : decode cX3_searchFrom 101 = .ok (.getfield 15, 3) := by decide +kernel
theorem dX3_searchFrom_104 : decode cX3_searchFrom 104 = .ok (.iload 5, 2) := by decide +kernel
theorem dX3_searchFrom_106 : decode cX3_searchFrom 106 = .ok (.iaload, 1) := by decide +kernel
theorem dX3_searchFrom_107 : decode cX3_searchFrom 107 = .ok (.iload_n 3, 1) := by decide +kernel
theorem dX3_searchFrom_108 : decode cX3_searchFrom 108 = .ok (.invokevirtual 49, 3) := by decide +kernel
theorem dX3_searchFrom_111 : decode cX3_searchFrom 111 = .ok (.iinc 5 1, 3) := by decide +kernel
theorem dX3_searchFrom_114 : decode cX3_searchFrom 114 = .ok (.goto (-37), 3) := by decide +kernel
theorem dX3_searchFrom_117 : decode cX3_searchFrom 117 = .ok (.iinc 3 1, 3) := by decide +kernel
theorem dX3_searchFrom_120 : decode cX3_searchFrom 120 = .ok (.goto (-67), 3) := by decide +kernel
theorem dX3_searchFrom_123 : decode cX3_searchFrom 123 = .ok (.return_, 1) := by decide +kernel
theorem dX3_noteNeighbours_0 : decode cX3_noteNeighbours 0 = .ok (.iconst 0, 1) := by decide +kernel
theorem dX3_noteNeighbours_1 : decode cX3_noteNeighbours 1 = .ok (.istore_n 3, 1) := by decide +kernel
theorem dX3_noteNeighbours_2 : decode cX3_noteNeighbours 2 = .ok (.iload_n 3, 1) := by decide +kernel
theorem dX3_noteNeighbours_3 : decode cX3_noteNeighbours 3 = .ok (.iconst 5, 1) := by decide +kernel
theorem dX3_noteNeighbours_4 : decode cX3_noteNeighbours 4 = .ok (.if_icmp .ge 47, 3) := by decide +kernel
theorem dX3_noteNeighbours_7 : decode cX3_noteNeighbours 7 = .ok (.aload_n 0, 1) := by decide +kernel
theorem dX3_noteNeighbours_8 : decode cX3_noteNeighbours 8 = .ok (.getfield 25, 3) := by decide +kernel
theorem dX3_noteNeighbours_11 : decode cX3_noteNeighbours 11 = .ok (.iload_n 1, 1) := by decide +kernel
theorem dX3_noteNeighbours_12 : decode cX3_noteNeighbours 12 = .ok (.iload_n 3, 1) := by decide +kernel
theorem dX3_noteNeighbours_13 : decode cX3_noteNeighbours 13 = .ok (.aload_n 0, 1) := by decide +kernel
theorem dX3_noteNeighbours_14 : decode cX3_noteNeighbours 14 = .ok (.getfield 22, 3) := by decide +kernel
theorem dX3_noteNeighbours_17 : decode cX3_noteNeighbours 17 = .ok (.invokevirtual 52, 3) := by decide +kernel
theorem dX3_noteNeighbours_20 : decode cX3_noteNeighbours 20 = .ok (.istore 4, 2) := by decide +kernel
theorem dX3_noteNeighbours_22 : decode cX3_noteNeighbours 22 = .ok (.iload 4, 2) := by decide +kernel
theorem dX3_noteNeighbours_24 : decode cX3_noteNeighbours 24 = .ok (.iconst (-1), 1) := by decide +kernel
theorem dX3_noteNeighbours_25 : decode cX3_noteNeighbours 25 = .ok (.if_icmp .eq 20, 3) := by decide +kernel
theorem dX3_noteNeighbours_28 : decode cX3_noteNeighbours 28 = .ok (.aload_n 0, 1) := by decide +kernel
theorem dX3_noteNeighbours_29 : decode cX3_noteNeighbours 29 = .ok (.aload_n 0, 1) := by decide +kernel
theorem dX3_noteNeighbours_30 : decode cX3_noteNeighbours 30 = .ok (.getfield 25, 3) := by decide +kernel
theorem dX3_noteNeighbours_33 : decode cX3_noteNeighbours 33 = .ok (.iload_n 1, 1) := by decide +kernel
theorem dX3_noteNeighbours_34 : decode cX3_noteNeighbours 34 = .ok (.iload_n 3, 1) := by decide +kernel
theorem dX3_noteNeighbours_35 : decode cX3_noteNeighbours 35 = .ok (.invokevirtual 58, 3) := by decide +kernel
theorem dX3_noteNeighbours_38 : decode cX3_noteNeighbours 38 = .ok (.iload_n 2, 1) := by decide +kernel
theorem dX3_noteNeighbours_39 : decode cX3_noteNeighbours 39 = .ok (.iload 4, 2) := by decide +kernel
theorem dX3_noteNeighbours_41 : decode cX3_noteNeighbours 41 = .ok (.iadd, 1) := by decide +kernel
theorem dX3_noteNeighbours_42 : decode cX3_noteNeighbours 42 = .ok (.invokevirtual 41, 3) := by decide +kernel
theorem dX3_noteNeighbours_45 : decode cX3_noteNeighbours 45 = .ok (.iinc 3 1, 3) := by decide +kernel
theorem dX3_noteNeighbours_48 : decode cX3_noteNeighbours 48 = .ok (.goto (-46), 3) := by decide +kernel
theorem dX3_noteNeighbours_51 : decode cX3_noteNeighbours 51 = .ok (.return_, 1) := by decide +kernel
theorem dX3_note_0 : decode cX3_note 0 = .ok (.iload_n 1, 1) := by decide +kernel
theorem dX3_note_1 : decode cX3_note 1 = .ok (.iconst 0, 1) := by decide +kernel
theorem dX3_note_2 : decode cX3_note 2 = .ok (.sipush 719, 3) := by decide +kernel
theorem dX3_note_5 : decode cX3_note 5 = .ok (.invokestatic 62, 3) := by decide +kernel
theorem dX3_note_8 : decode cX3_note 8 = .ok (.ifCond .ne 4, 3) := by decide +kernel
theorem dX3_note_11 : decode cX3_note 11 = .ok (.return_, 1) := by decide +kernel
theorem dX3_note_12 : decode cX3_note 12 = .ok (.aload_n 0, 1) := by decide +kernel
theorem dX3_note_13 : decode cX3_note 13 = .ok (.getfield 9, 3) := by decide +kernel
theorem dX3_note_16 : decode cX3_note 16 = .ok (.iload_n 1, 1) := by decide +kernel
theorem dX3_note_17 : decode cX3_note 17 = .ok (.iaload, 1) := by decide +kernel
theorem dX3_note_18 : decode cX3_note 18 = .ok (.iconst (-1), 1) := by decide +kernel
theorem dX3_note_19 : decode cX3_note 19 = .ok (.if_icmp .ne 55, 3) := by decide +kernel
theorem dX3_note_22 : decode cX3_note 22 = .ok (.aload_n 0, 1) := by decide +kernel
theorem dX3_note_23 : decode cX3_note 23 = .ok (.getfield 29, 3) := by decide +kernel
theorem dX3_note_26 : decode cX3_note 26 = .ok (.sipush 720, 3) := by decide +kernel
theorem dX3_note_29 : decode cX3_note 29 = .ok (.if_icmp .ge 45, 3) := by decide +kernel
theorem dX3_note_32 : decode cX3_note 32 = .ok (.aload_n 0, 1) := by decide +kernel
theorem dX3_note_33 : decode cX3_note 33 = .ok (.getfield 15, 3) := by decide +kernel
theorem dX3_note_36 : decode cX3_note 36 = .ok (.aload_n 0, 1) := by decide +kernel
theorem dX3_note_37 : decode cX3_note 37 = .ok (.getfield 29, 3) := by decide +kernel
theorem dX3_note_40 : decode cX3_note 40 = .ok (.iload_n 1, 1) := by decide +kernel
theorem dX3_note_41 : decode cX3_note 41 = .ok (.iastore, 1) := by decide +kernel
theorem dX3_note_42 : decode cX3_note 42 = .ok (.aload_n 0, 1) := by decide +kernel
theorem dX3_note_43 : decode cX3_note 43 = .ok (.dup, 1) := by decide +kernel
theorem dX3_note_44 : decode cX3_note 44 = .ok (.getfield 29, 3) := by decide +kernel
theorem dX3_note_47 : decode cX3_note 47 = .ok (.iconst 1, 1) := by decide +kernel
theorem dX3_note_48 : decode cX3_note 48 = .ok (.iadd, 1) := by decide +kernel
theorem dX3_note_49 : decode cX3_note 49 = .ok (.putfield 29, 3) := by decide +kernel
theorem dX3_note_52 : decode cX3_note 52 = .ok (.aload_n 0, 1) := by decide +kernel
theorem dX3_note_53 : decode cX3_note 53 = .ok (.getfield 9, 3) := by decide +kernel
theorem dX3_note_56 : decode cX3_note 56 = .ok (.iload_n 1, 1) := by decide +kernel
theorem dX3_note_57 : decode cX3_note 57 = .ok (.iload_n 2, 1) := by decide +kernel
theorem dX3_note_58 : decode cX3_note 58 = .ok (.iastore, 1) := by decide +kernel
theorem dX3_note_59 : decode cX3_note 59 = .ok (.aload_n 0, 1) := by decide +kernel
theorem dX3_note_60 : decode cX3_note 60 = .ok (.aload_n 0, 1) := by decide +kernel
theorem dX3_note_61 : decode cX3_note 61 = .ok (.getfield 32, 3) := by decide +kernel
theorem dX3_note_64 : decode cX3_note 64 = .ok (.iload_n 2, 1) := by decide +kernel
theorem dX3_note_65 : decode cX3_note 65 = .ok (.invokestatic 66, 3) := by decide +kernel
theorem dX3_note_68 : decode cX3_note 68 = .ok (.putfield 32, 3) := by decide +kernel
theorem dX3_note_71 : decode cX3_note 71 = .ok (.goto 20, 3) := by decide +kernel
theorem dX3_note_74 : decode cX3_note 74 = .ok (.iload_n 2, 1) := by decide +kernel
theorem dX3_note_75 : decode cX3_note 75 = .ok (.aload_n 0, 1) := by decide +kernel
theorem dX3_note_76 : decode cX3_note 76 = .ok (.getfield 9, 3) := by decide +kernel
theorem dX3_note_79 : decode cX3_note 79 = .ok (.iload_n 1, 1) := by decide +kernel
theorem dX3_note_80 : decode cX3_note 80 = .ok (.iaload, 1) := by decide +kernel
theorem dX3_note_81 : decode cX3_note 81 = .ok (.if_icmp .ge 10, 3) := by decide +kernel
theorem dX3_note_84 : decode cX3_note 84 = .ok (.aload_n 0, 1) := by decide +kernel
theorem dX3_note_85 : decode cX3_note 85 = .ok (.getfield 9, 3) := by decide +kernel
theorem dX3_note_88 : decode cX3_note 88 = .ok (.iload_n 1, 1) := by decide +kernel
theorem dX3_note_89 : decode cX3_note 89 = .ok (.iload_n 2, 1) := by decide +kernel
theorem dX3_note_90 : decode cX3_note 90 = .ok (.iastore, 1) := by decide +kernel
theorem dX3_note_91 : decode cX3_note 91 = .ok (.return_, 1) := by decide +kernel
theorem dX3_costOf_0 : decode cX3_costOf 0 = .ok (.iload_n 1, 1) := by decide +kernel
theorem dX3_costOf_1 : decode cX3_costOf 1 = .ok (.iconst 0, 1) := by decide +kernel
theorem dX3_costOf_2 : decode cX3_costOf 2 = .ok (.sipush 719, 3) := by decide +kernel
theorem dX3_costOf_5 : decode cX3_costOf 5 = .ok (.invokestatic 62, 3) := by decide +kernel
theorem dX3_costOf_8 : decode cX3_costOf 8 = .ok (.ifCond .eq 12, 3) := by decide +kernel
theorem dX3_costOf_11 : decode cX3_costOf 11 = .ok (.aload_n 0, 1) := by decide +kernel
theorem dX3_costOf_12 : decode cX3_costOf 12 = .ok (.getfield 9, 3) := by decide +kernel
theorem dX3_costOf_15 : decode cX3_costOf 15 = .ok (.iload_n 1, 1) := by decide +kernel
theorem dX3_costOf_16 : decode cX3_costOf 16 = .ok (.iaload, 1) := by decide +kernel
theorem dX3_costOf_17 : decode cX3_costOf 17 = .ok (.goto 4, 3) := by decide +kernel
theorem dX3_costOf_20 : decode cX3_costOf 20 = .ok (.iconst (-1), 1) := by decide +kernel
theorem dX3_costOf_21 : decode cX3_costOf 21 = .ok (.ireturn, 1) := by decide +kernel
theorem dX3_size_0 : decode cX3_size 0 = .ok (.aload_n 0, 1) := by decide +kernel
theorem dX3_size_1 : decode cX3_size 1 = .ok (.getfield 29, 3) := by decide +kernel
theorem dX3_size_4 : decode cX3_size 4 = .ok (.ireturn, 1) := by decide +kernel
theorem dX3_farthest_0 : decode cX3_farthest 0 = .ok (.iconst 0, 1) := by decide +kernel
theorem dX3_farthest_1 : decode cX3_farthest 1 = .ok (.istore_n 1, 1) := by decide +kernel
theorem dX3_farthest_2 : decode cX3_farthest 2 = .ok (.iconst 0, 1) := by decide +kernel
theorem dX3_farthest_3 : decode cX3_farthest 3 = .ok (.istore_n 2, 1) := by decide +kernel
theorem dX3_farthest_4 : decode cX3_farthest 4 = .ok (.iload_n 2, 1) := by decide +kernel
theorem dX3_farthest_5 : decode cX3_farthest 5 = .ok (.aload_n 0, 1) := by decide +kernel
theorem dX3_farthest_6 : decode cX3_farthest 6 = .ok (.getfield 29, 3) := by decide +kernel
theorem dX3_farthest_9 : decode cX3_farthest 9 = .ok (.if_icmp .ge 24, 3) := by decide +kernel
theorem dX3_farthest_12 : decode cX3_farthest 12 = .ok (.iload_n 1, 1) := by decide +kernel
theorem dX3_farthest_13 : decode cX3_farthest 13 = .ok (.aload_n 0, 1) := by decide +kernel
theorem dX3_farthest_14 : decode cX3_farthest 14 = .ok (.aload_n 0, 1) := by decide +kernel
theorem dX3_farthest_15 : decode cX3_farthest 15 = .ok (.getfield 15, 3) := by decide +kernel
theorem dX3_farthest_18 : decode cX3_farthest 18 = .ok (.iload_n 2, 1) := by decide +kernel
theorem dX3_farthest_19 : decode cX3_farthest 19 = .ok (.iaload, 1) := by decide +kernel
theorem dX3_farthest_20 : decode cX3_farthest 20 = .ok (.invokevirtual 45, 3) := by decide +kernel
theorem dX3_farthest_23 : decode cX3_farthest 23 = .ok (.invokestatic 66, 3) := by decide +kernel
theorem dX3_farthest_26 : decode cX3_farthest 26 = .ok (.istore_n 1, 1) := by decide +kernel
theorem dX3_farthest_27 : decode cX3_farthest 27 = .ok (.iinc 2 1, 3) := by decide +kernel
theorem dX3_farthest_30 : decode cX3_farthest 30 = .ok (.goto (-26), 3) := by decide +kernel
theorem dX3_farthest_33 : decode cX3_farthest 33 = .ok (.iload_n 1, 1) := by decide +kernel
theorem dX3_farthest_34 : decode cX3_farthest 34 = .ok (.ireturn, 1) := by decide +kernel
theorem dX3_leastWith_0 : decode cX3_leastWith 0 = .ok (.iconst (-1), 1) := by decide +kernel
theorem dX3_leastWith_1 : decode cX3_leastWith 1 = .ok (.istore_n 3, 1) := by decide +kernel
theorem dX3_leastWith_2 : decode cX3_leastWith 2 = .ok (.iconst 0, 1) := by decide +kernel
theorem dX3_leastWith_3 : decode cX3_leastWith 3 = .ok (.istore 4, 2) := by decide +kernel
theorem dX3_leastWith_5 : decode cX3_leastWith 5 = .ok (.iload 4, 2) := by decide +kernel
theorem dX3_leastWith_7 : decode cX3_leastWith 7 = .ok (.aload_n 0, 1) := by decide +kernel
theorem dX3_leastWith_8 : decode cX3_leastWith 8 = .ok (.getfield 29, 3) := by decide +kernel
theorem dX3_leastWith_11 : decode cX3_leastWith 11 = .ok (.if_icmp .ge 55, 3) := by decide +kernel
theorem dX3_leastWith_14 : decode cX3_leastWith 14 = .ok (.aload_n 0, 1) := by decide +kernel
theorem dX3_leastWith_15 : decode cX3_leastWith 15 = .ok (.aload_n 0, 1) := by decide +kernel
theorem dX3_leastWith_16 : decode cX3_leastWith 16 = .ok (.getfield 15, 3) := by decide +kernel
theorem dX3_leastWith_19 : decode cX3_leastWith 19 = .ok (.iload 4, 2) := by decide +kernel
theorem dX3_leastWith_21 : decode cX3_leastWith 21 = .ok (.iaload, 1) := by decide +kernel
theorem dX3_leastWith_22 : decode cX3_leastWith 22 = .ok (.invokevirtual 45, 3) := by decide +kernel
theorem dX3_leastWith_25 : decode cX3_leastWith 25 = .ok (.istore 5, 2) := by decide +kernel
theorem dX3_leastWith_27 : decode cX3_leastWith 27 = .ok (.aload_n 0, 1) := by decide +kernel
theorem dX3_leastWith_28 : decode cX3_leastWith 28 = .ok (.getfield 25, 3) := by decide +kernel
theorem dX3_leastWith_31 : decode cX3_leastWith 31 = .ok (.aload_n 0, 1) := by decide +kernel
theorem dX3_leastWith_32 : decode cX3_leastWith 32 = .ok (.getfield 15, 3) := by decide +kernel
theorem dX3_leastWith_35 : decode cX3_leastWith 35 = .ok (.iload 4, 2) := by decide +kernel
theorem dX3_leastWith_37 : decode cX3_leastWith 37 = .ok (.iaload, 1) := by decide +kernel
theorem dX3_leastWith_38 : decode cX3_leastWith 38 = .ok (.iload_n 1, 1) := by decide +kernel
theorem dX3_leastWith_39 : decode cX3_leastWith 39 = .ok (.invokevirtual 71, 3) := by decide +kernel
theorem dX3_leastWith_42 : decode cX3_leastWith 42 = .ok (.iload_n 2, 1) := by decide +kernel
theorem dX3_leastWith_43 : decode cX3_leastWith 43 = .ok (.if_icmp .ne 17, 3) := by decide +kernel
theorem dX3_leastWith_46 : decode cX3_leastWith 46 = .ok (.iload_n 3, 1) := by decide +kernel
theorem dX3_leastWith_47 : decode cX3_leastWith 47 = .ok (.iconst (-1), 1) := by decide +kernel
theorem dX3_leastWith_48 : decode cX3_leastWith 48 = .ok (.if_icmp .eq 9, 3) := by decide +kernel
theorem dX3_leastWith_51 : decode cX3_leastWith 51 = .ok (.iload 5, 2) := by decide +kernel
theorem dX3_leastWith_53 : decode cX3_leastWith 53 = .ok (.iload_n 3, 1) := by decide +kernel
theorem dX3_leastWith_54 : decode cX3_leastWith 54 = .ok (.if_icmp .ge 6, 3) := by decide +kernel
theorem dX3_leastWith_57 : decode cX3_leastWith 57 = .ok (.iload 5, 2) := by decide +kernel
theorem dX3_leastWith_59 : decode cX3_leastWith 59 = .ok (.istore_n 3, 1) := by decide +kernel
theorem dX3_leastWith_60 : decode cX3_leastWith 60 = .ok (.iinc 4 1, 3) := by decide +kernel
theorem dX3_leastWith_63 : decode cX3_leastWith 63 = .ok (.goto (-58), 3) := by decide +kernel
theorem dX3_leastWith_66 : decode cX3_leastWith 66 = .ok (.iload_n 3, 1) := by decide +kernel
theorem dX3_leastWith_67 : decode cX3_leastWith 67 = .ok (.ireturn, 1) := by decide +kernel
theorem dX4_init_0 : decode cX4_init 0 = .ok (.aload_n 0, 1) := by decide +kernel
theorem dX4_init_1 : decode cX4_init 1 = .ok (.invokespecial 3, 3) := by decide +kernel
theorem dX4_init_4 : decode cX4_init 4 = .ok (.aload_n 0, 1) := by decide +kernel
theorem dX4_init_5 : decode cX4_init 5 = .ok (.iconst (-1), 1) := by decide +kernel
theorem dX4_init_6 : decode cX4_init 6 = .ok (.putfield 9, 3) := by decide +kernel
theorem dX4_init_9 : decode cX4_init 9 = .ok (.aload_n 0, 1) := by decide +kernel
theorem dX4_init_10 : decode cX4_init 10 = .ok (.iconst (-1), 1) := by decide +kernel
theorem dX4_init_11 : decode cX4_init 11 = .ok (.putfield 15, 3) := by decide +kernel
theorem dX4_init_14 : decode cX4_init 14 = .ok (.aload_n 0, 1) := by decide +kernel
theorem dX4_init_15 : decode cX4_init 15 = .ok (.iconst 5, 1) := by decide +kernel
theorem dX4_init_16 : decode cX4_init 16 = .ok (.newarray .int, 2) := by decide +kernel
theorem dX4_init_18 : decode cX4_init 18 = .ok (.putfield 18, 3) := by decide +kernel
theorem dX4_init_21 : decode cX4_init 21 = .ok (.return_, 1) := by decide +kernel
theorem dX4_start_0 : decode cX4_start 0 = .ok (.aload_n 0, 1) := by decide +kernel
theorem dX4_start_1 : decode cX4_start 1 = .ok (.iload_n 1, 1) := by decide +kernel
theorem dX4_start_2 : decode cX4_start 2 = .ok (.putfield 9, 3) := by decide +kernel
theorem dX4_start_5 : decode cX4_start 5 = .ok (.aload_n 0, 1) := by decide +kernel
theorem dX4_start_6 : decode cX4_start 6 = .ok (.iload_n 2, 1) := by decide +kernel
theorem dX4_start_7 : decode cX4_start 7 = .ok (.putfield 15, 3) := by decide +kernel
theorem dX4_start_10 : decode cX4_start 10 = .ok (.aload_n 0, 1) := by decide +kernel
theorem dX4_start_11 : decode cX4_start 11 = .ok (.iload_n 3, 1) := by decide +kernel
theorem dX4_start_12 : decode cX4_start 12 = .ok (.putfield 22, 3) := by decide +kernel
theorem dX4_start_15 : decode cX4_start 15 = .ok (.aload_n 0, 1) := by decide +kernel
theorem dX4_start_16 : decode cX4_start 16 = .ok (.iconst 0, 1) := by decide +kernel
theorem dX4_start_17 : decode cX4_start 17 = .ok (.putfield 25, 3) := by decide +kernel
theorem dX4_start_20 : decode cX4_start 20 = .ok (.aload_n 0, 1) := by decide +kernel
theorem dX4_start_21 : decode cX4_start 21 = .ok (.iconst 0, 1) := by decide +kernel
theorem dX4_start_22 : decode cX4_start 22 = .ok (.putfield 28, 3) := by decide +kernel
theorem dX4_start_25 : decode cX4_start 25 = .ok (.aload_n 0, 1) := by decide +kernel
theorem dX4_start_26 : decode cX4_start 26 = .ok (.invokevirtual 31, 3) := by decide +kernel
theorem dX4_start_29 : decode cX4_start 29 = .ok (.return_, 1) := by decide +kernel
theorem dX4_forgetSeen_0 : decode cX4_forgetSeen 0 = .ok (.aload_n 0, 1) := by decide +kernel
theorem dX4_forgetSeen_1 : decode cX4_forgetSeen 1 = .ok (.iconst 0, 1) := by decide +kernel
theorem dX4_forgetSeen_2 : decode cX4_forgetSeen 2 = .ok (.putfield 34, 3) := by decide +kernel
theorem dX4_forgetSeen_5 : decode cX4_forgetSeen 5 = .ok (.aload_n 0, 1) := by decide +kernel
theorem dX4_forgetSeen_6 : decode cX4_forgetSeen 6 = .ok (.getfield 18, 3) := by decide +kernel
theorem dX4_forgetSeen_9 : decode cX4_forgetSeen 9 = .ok (.bipush 31, 2) := by decide +kernel
theorem dX4_forgetSeen_11 : decode cX4_forgetSeen 11 = .ok (.invokestatic 37, 3) := by decide +kernel
theorem dX4_forgetSeen_14 : decode cX4_forgetSeen 14 = .ok (.return_, 1) := by decide +kernel
theorem dX4_narrow_0 : decode cX4_narrow 0 = .ok (.iload_n 1, 1) := by decide +kernel
theorem dX4_narrow_1 : decode cX4_narrow 1 = .ok (.iconst 0, 1) := by decide +kernel
theorem dX4_narrow_2 : decode cX4_narrow 2 = .ok (.iconst 4, 1) := by decide +kernel
theorem dX4_narrow_3 : decode cX4_narrow 3 = .ok (.invokestatic 43, 3) := by decide +kernel
theorem dX4_narrow_6 : decode cX4_narrow 6 = .ok (.ifCond .eq 23, 3) := by decide +kernel
theorem dX4_narrow_9 : decode cX4_narrow 9 = .ok (.aload_n 0, 1) := by decide +kernel
theorem dX4_narrow_10 : decode cX4_narrow 10 = .ok (.getfield 18, 3) := by decide +kernel
theorem dX4_narrow_13 : decode cX4_narrow 13 = .ok (.iload_n 1, 1) := by decide +kernel
theorem dX4_narrow_14 : decode cX4_narrow 14 = .ok (.dup2, 1) := by decide +kernel
theorem dX4_narrow_15 : decode cX4_narrow 15 = .ok (.iaload, 1) := by decide +kernel
theorem dX4_narrow_16 : decode cX4_narrow 16 = .ok (.iload_n 2, 1) := by decide +kernel
theorem dX4_narrow_17 : decode cX4_narrow 17 = .ok (.iand, 1) := by decide +kernel
theorem dX4_narrow_18 : decode cX4_narrow 18 = .ok (.iastore, 1) := by decide +kernel
theorem dX4_narrow_19 : decode cX4_narrow 19 = .ok (.aload_n 0, 1) := by decide +kernel
theorem dX4_narrow_20 : decode cX4_narrow 20 = .ok (.dup, 1) := by decide +kernel
theorem dX4_narrow_21 : decode cX4_narrow 21 = .ok (.getfield 34, 3) := by decide +kernel
theorem dX4_narrow_24 : decode cX4_narrow 24 = .ok (.iconst 1, 1) := by decide +kernel
theorem dX4_narrow_25 : decode cX4_narrow 25 = .ok (.iadd, 1) := by decide +kernel
theorem dX4_narrow_26 : decode cX4_narrow 26 = .ok (.putfield 34, 3) := by decide +kernel
theorem dX4_narrow_29 : decode cX4_narrow 29 = .ok (.return_, 1) := by decide +kernel
theorem dX4_sortsOf_0 : decode cX4_sortsOf 0 = .ok (.iload_n 1, 1) := by decide +kernel
theorem dX4_sortsOf_1 : decode cX4_sortsOf 1 = .ok (.iconst 0, 1) := by decide +kernel
theorem dX4_sortsOf_2 : decode cX4_sortsOf 2 = .ok (.iconst 4, 1) := by decide +kernel
theorem dX4_sortsOf_3 : decode cX4_sortsOf 3 = .ok (.invokestatic 43, 3) := by decide +kernel
theorem dX4_sortsOf_6 : decode cX4_sortsOf 6 = .ok (.ifCond .eq 12, 3) := by decide +kernel
theorem dX4_sortsOf_9 : decode cX4_sortsOf 9 = .ok (.aload_n 0, 1) := by decide +kernel
theorem dX4_sortsOf_10 : decode cX4_sortsOf 10 = .ok (.getfield 18, 3) := by decide +kernel
theorem dX4_sortsOf_13 : decode cX4_sortsOf 13 = .ok (.iload_n 1, 1) := by decide +kernel
theorem dX4_sortsOf_14 : decode cX4_sortsOf 14 = .ok (.iaload, 1) := by decide +kernel
theorem dX4_sortsOf_15 : decode cX4_sortsOf 15 = .ok (.goto 4, 3) := by decide +kernel
theorem dX4_sortsOf_18 : decode cX4_sortsOf 18 = .ok (.iconst 0, 1) := by decide +kernel
theorem dX4_sortsOf_19 : decode cX4_sortsOf 19 = .ok (.ireturn, 1) := by decide +kernel
theorem dX4_copy_0 : decode cX4_copy 0 = .ok (.aload_n 0, 1) := by decide +kernel
theorem dX4_copy_1 : decode cX4_copy 1 = .ok (.aload_n 1, 1) := by decide +kernel
theorem dX4_copy_2 : decode cX4_copy 2 = .ok (.getfield 9, 3) := by decide +kernel
theorem dX4_copy_5 : decode cX4_copy 5 = .ok (.aload_n 1, 1) := by decide +kernel
theorem dX4_copy_6 : decode cX4_copy 6 = .ok (.getfield 15, 3) := by decide +kernel
theorem dX4_copy_9 : decode cX4_copy 9 = .ok (.aload_n 1, 1) := by decide +kernel
theorem dX4_copy_10 : decode cX4_copy 10 = .ok (.getfield 22, 3) := by decide +kernel
theorem dX4_copy_13 : decode cX4_copy 13 = .ok (.invokevirtual 47, 3) := by decide +kernel
theorem dX4_copy_16 : decode cX4_copy 16 = .ok (.aload_n 0, 1) := by decide +kernel
theorem dX4_copy_17 : decode cX4_copy 17 = .ok (.aload_n 1, 1) := by decide +kernel
theorem dX4_copy_18 : decode cX4_copy 18 = .ok (.getfield 25, 3) := by decide +kernel
theorem dX4_copy_21 : decode cX4_copy 21 = .ok (.putfield 25, 3) := by decide +kernel
theorem dX4_copy_24 : decode cX4_copy 24 = .ok (.aload_n 0, 1) := by decide +kernel
theorem dX4_copy_25 : decode cX4_copy 25 = .ok (.aload_n 1, 1) := by decide +kernel
theorem dX4_copy_26 : decode cX4_copy 26 = .ok (.getfield 28, 3) := by decide +kernel
theorem dX4_copy_29 : decode cX4_copy 29 = .ok (.putfield 28, 3) := by decide +kernel
theorem dX4_copy_32 : decode cX4_copy 32 = .ok (.aload_n 0, 1) := by decide +kernel
theorem dX4_copy_33 : decode cX4_copy 33 = .ok (.aload_n 1, 1) := by decide +kernel
theorem dX4_copy_34 : decode cX4_copy 34 = .ok (.getfield 34, 3) := by decide +kernel
theorem dX4_copy_37 : decode cX4_copy 37 = .ok (.putfield 34, 3) := by decide +kernel
theorem dX4_copy_40 : decode cX4_copy 40 = .ok (.aload_n 1, 1) := by decide +kernel
theorem dX4_copy_41 : decode cX4_copy 41 = .ok (.getfield 18, 3) := by decide +kernel
theorem dX4_copy_44 : decode cX4_copy 44 = .ok (.iconst 0, 1) := by decide +kernel
theorem dX4_copy_45 : decode cX4_copy 45 = .ok (.aload_n 0, 1) := by decide +kernel
theorem dX4_copy_46 : decode cX4_copy 46 = .ok (.getfield 18, 3) := by decide +kernel
theorem dX4_copy_49 : decode cX4_copy 49 = .ok (.iconst 0, 1) := by decide +kernel
theorem dX4_copy_50 : decode cX4_copy 50 = .ok (.iconst 5, 1) := by decide +kernel
theorem dX4_copy_51 : decode cX4_copy 51 = .ok (.invokestatic 51, 3) := by decide +kernel
theorem dX4_copy_54 : decode cX4_copy 54 = .ok (.return_, 1) := by decide +kernel
theorem dX5_init_0 : decode cX5_init 0 = .ok (.aload_n 0, 1) := by decide +kernel
theorem dX5_init_1 : decode cX5_init 1 = .ok (.invokespecial 1, 3) := by decide +kernel
theorem dX5_init_4 : decode cX5_init 4 = .ok (.aload_n 0, 1) := by decide +kernel
theorem dX5_init_5 : decode cX5_init 5 = .ok (.new 7, 3) := by decide +kernel
theorem dX5_init_8 : decode cX5_init 8 = .ok (.dup, 1) := by decide +kernel
theorem dX5_init_9 : decode cX5_init 9 = .ok (.invokespecial 9, 3) := by decide +kernel
theorem dX5_init_12 : decode cX5_init 12 = .ok (.putfield 10, 3) := by decide +kernel
theorem dX5_init_15 : decode cX5_init 15 = .ok (.aload_n 0, 1) := by decide +kernel
theorem dX5_init_16 : decode cX5_init 16 = .ok (.new 16, 3) := by decide +kernel
theorem dX5_init_19 : decode cX5_init 19 = .ok (.dup, 1) := by decide +kernel
theorem dX5_init_20 : decode cX5_init 20 = .ok (.aload_n 0, 1) := by decide +kernel
theorem dX5_init_21 : decode cX5_init 21 = .ok (.getfield 10, 3) := by decide +kernel
theorem dX5_init_24 : decode cX5_init 24 = .ok (.invokespecial 18, 3) := by decide +kernel
theorem dX5_init_27 : decode cX5_init 27 = .ok (.putfield 21, 3) := by decide +kernel
theorem dX5_init_30 : decode cX5_init 30 = .ok (.aload_n 0, 1) := by decide +kernel
theorem dX5_init_31 : decode cX5_init 31 = .ok (.new 16, 3) := by decide +kernel
theorem dX5_init_34 : decode cX5_init 34 = .ok (.dup, 1) := by decide +kernel
theorem dX5_init_35 : decode cX5_init 35 = .ok (.aload_n 0, 1) := by decide +kernel
theorem dX5_init_36 : decode cX5_init 36 = .ok (.getfield 10, 3) := by decide +kernel
theorem dX5_init_39 : decode cX5_init 39 = .ok (.invokespecial 18, 3) := by decide +kernel
theorem dX5_init_42 : decode cX5_init 42 = .ok (.putfield 25, 3) := by decide +kernel
theorem dX5_init_45 : decode cX5_init 45 = .ok (.aload_n 0, 1) := by decide +kernel
theorem dX5_init_46 : decode cX5_init 46 = .ok (.new 28, 3) := by decide +kernel
theorem dX5_init_49 : decode cX5_init 49 = .ok (.dup, 1) := by decide +kernel
theorem dX5_init_50 : decode cX5_init 50 = .ok (.aload_n 0, 1) := by decide +kernel
theorem dX5_init_51 : decode cX5_init 51 = .ok (.getfield 10, 3) := by decide +kernel
theorem dX5_init_54 : decode cX5_init 54 = .ok (.invokespecial 30, 3) := by decide +kernel
theorem dX5_init_57 : decode cX5_init 57 = .ok (.putfield 31, 3) := by decide +kernel
theorem dX5_init_60 : decode cX5_init 60 = .ok (.aload_n 0, 1) := by decide +kernel
theorem dX5_init_61 : decode cX5_init 61 = .ok (.new 35, 3) := by decide +kernel
theorem dX5_init_64 : decode cX5_init 64 = .ok (.dup, 1) := by decide +kernel
theorem dX5_init_65 : decode cX5_init 65 = .ok (.invokespecial 37, 3) := by decide +kernel
theorem dX5_init_68 : decode cX5_init 68 = .ok (.putfield 38, 3) := by decide +kernel
theorem dX5_init_71 : decode cX5_init 71 = .ok (.aload_n 0, 1) := by decide +kernel
theorem dX5_init_72 : decode cX5_init 72 = .ok (.new 35, 3) := by decide +kernel
theorem dX5_init_75 : decode cX5_init 75 = .ok (.dup, 1) := by decide +kernel
theorem dX5_init_76 : decode cX5_init 76 = .ok (.invokespecial 37, 3) := by decide +kernel
theorem dX5_init_79 : decode cX5_init 79 = .ok (.putfield 42, 3) := by decide +kernel
theorem dX5_init_82 : decode cX5_init 82 = .ok (.aload_n 0, 1) := by decide +kernel
theorem dX5_init_83 : decode cX5_init 83 = .ok (.bipush 22, 2) := by decide +kernel
theorem dX5_init_85 : decode cX5_init 85 = .ok (.newarray .int, 2) := by decide +kernel
theorem dX5_init_87 : decode cX5_init 87 = .ok (.putfield 45, 3) := by decide +kernel
theorem dX5_init_90 : decode cX5_init 90 = .ok (.aload_n 0, 1) := by decide +kernel
theorem dX5_init_91 : decode cX5_init 91 = .ok (.bipush 6, 2) := by decide +kernel
theorem dX5_init_93 : decode cX5_init 93 = .ok (.newarray .int, 2) := by decide +kernel
theorem dX5_init_95 : decode cX5_init 95 = .ok (.putfield 49, 3) := by decide +kernel
theorem dX5_init_98 : decode cX5_init 98 = .ok (.return_, 1) := by decide +kernel
theorem dX5_letter_0 : decode cX5_letter 0 = .ok (.iload_n 1, 1) := by decide +kernel
theorem dX5_letter_1 : decode cX5_letter 1 = .ok (.bipush 32, 2) := by decide +kernel
theorem dX5_letter_3 : decode cX5_letter 3 = .ok (.bipush 126, 2) := by decide +kernel
theorem dX5_letter_5 : decode cX5_letter 5 = .ok (.invokestatic 52, 3) := by decide +kernel
theorem dX5_letter_8 : decode cX5_letter 8 = .ok (.ifCond .ne 6, 3) := by decide +kernel
theorem dX5_letter_11 : decode cX5_letter 11 = .ok (.bipush (-102), 2) := by decide +kernel
theorem dX5_letter_13 : decode cX5_letter 13 = .ok (.ireturn, 1) := by decide +kernel
theorem dX5_letter_14 : decode cX5_letter 14 = .ok (.aload_n 0, 1) := by decide +kernel
theorem dX5_letter_15 : decode cX5_letter 15 = .ok (.getfield 56, 3) := by decide +kernel
theorem dX5_letter_18 : decode cX5_letter 18 = .ok (.bipush 22, 2) := by decide +kernel
theorem dX5_letter_20 : decode cX5_letter 20 = .ok (.if_icmp .lt 6, 3) := by decide +kernel
theorem dX5_letter_23 : decode cX5_letter 23 = .ok (.bipush (-104), 2) := by decide +kernel
theorem dX5_letter_25 : decode cX5_letter 25 = .ok (.ireturn, 1) := by decide +kernel
theorem dX5_letter_26 : decode cX5_letter 26 = .ok (.aload_n 0, 1) := by decide +kernel
theorem dX5_letter_27 : decode cX5_letter 27 = .ok (.getfield 45, 3) := by decide +kernel
theorem dX5_letter_30 : decode cX5_letter 30 = .ok (.aload_n 0, 1) := by decide +kernel
theorem dX5_letter_31 : decode cX5_letter 31 = .ok (.getfield 56, 3) := by decide +kernel
theorem dX5_letter_34 : decode cX5_letter 34 = .ok (.iload_n 1, 1) := by decide +kernel
theorem dX5_letter_35 : decode cX5_letter 35 = .ok (.iastore, 1) := by decide +kernel
theorem dX5_letter_36 : decode cX5_letter 36 = .ok (.aload_n 0, 1) := by decide +kernel
theorem dX5_letter_37 : decode cX5_letter 37 = .ok (.dup, 1) := by decide +kernel
theorem dX5_letter_38 : decode cX5_letter 38 = .ok (.getfield 56, 3) := by decide +kernel
theorem dX5_letter_41 : decode cX5_letter 41 = .ok (.iconst 1, 1) := by decide +kernel
theorem dX5_letter_42 : decode cX5_letter 42 = .ok (.iadd, 1) := by decide +kernel
theorem dX5_letter_43 : decode cX5_letter 43 = .ok (.putfield 56, 3) := by decide +kernel
theorem dX5_letter_46 : decode cX5_letter 46 = .ok (.aload_n 0, 1) := by decide +kernel
theorem dX5_letter_47 : decode cX5_letter 47 = .ok (.getfield 56, 3) := by decide +kernel
theorem dX5_letter_50 : decode cX5_letter 50 = .ok (.ireturn, 1) := by decide +kernel
theorem dX5_blank_0 : decode cX5_blank 0 = .ok (.aload_n 0, 1) := by decide +kernel
theorem dX5_blank_1 : decode cX5_blank 1 = .ok (.getfield 56, 3) := by decide +kernel
theorem dX5_blank_4 : decode cX5_blank 4 = .ok (.istore_n 1, 1) := by decide +kernel
theorem dX5_blank_5 : decode cX5_blank 5 = .ok (.aload_n 0, 1) := by decide +kernel
theorem dX5_blank_6 : decode cX5_blank 6 = .ok (.iconst 0, 1) := by decide +kernel
theorem dX5_blank_7 : decode cX5_blank 7 = .ok (.putfield 56, 3) := by decide +kernel
theorem dX5_blank_10 : decode cX5_blank 10 = .ok (.iload_n 1, 1) := by decide +kernel
theorem dX5_blank_11 : decode cX5_blank 11 = .ok (.ireturn, 1) := by decide +kernel
theorem dX5_fault_0 : decode cX5_fault 0 = .ok (.aload_n 0, 1) := by decide +kernel
theorem dX5_fault_1 : decode cX5_fault 1 = .ok (.invokevirtual 60, 3) := by decide +kernel
theorem dX5_fault_4 : decode cX5_fault 4 = .ok (.ireturn, 1) := by decide +kernel
theorem dX5_tray_0 : decode cX5_tray 0 = .ok (.aload_n 0, 1) := by decide +kernel
theorem dX5_tray_1 : decode cX5_tray 1 = .ok (.getfield 56, 3) := by decide +kernel
theorem dX5_tray_4 : decode cX5_tray 4 = .ok (.bipush 19, 2) := by decide +kernel
theorem dX5_tray_6 : decode cX5_tray 6 = .ok (.if_icmp .ne 12, 3) := by decide +kernel
theorem dX5_tray_9 : decode cX5_tray 9 = .ok (.aload_n 0, 1) := by decide +kernel
theorem dX5_tray_10 : decode cX5_tray 10 = .ok (.invokevirtual 60, 3) := by decide +kernel
theorem dX5_tray_13 : decode cX5_tray 13 = .ok (.bipush 19, 2) := by decide +kernel
theorem dX5_tray_15 : decode cX5_tray 15 = .ok (.if_icmp .eq 6, 3) := by decide +kernel
theorem dX5_tray_18 : decode cX5_tray 18 = .ok (.bipush (-103), 2) := by decide +kernel
theorem dX5_tray_20 : decode cX5_tray 20 = .ok (.ireturn, 1) := by decide +kernel
theorem dX5_tray_21 : decode cX5_tray 21 = .ok (.aload_n 0, 1) := by decide +kernel
theorem dX5_tray_22 : decode cX5_tray 22 = .ok (.getfield 38, 3) := by decide +kernel
theorem dX5_tray_25 : decode cX5_tray 25 = .ok (.aload_n 0, 1) := by decide +kernel
theorem dX5_tray_26 : decode cX5_tray 26 = .ok (.iconst 0, 1) := by decide +kernel
theorem dX5_tray_27 : decode cX5_tray 27 = .ok (.invokevirtual 64, 3) := by decide +kernel
theorem dX5_tray_30 : decode cX5_tray 30 = .ok (.aload_n 0, 1) := by decide +kernel
theorem dX5_tray_31 : decode cX5_tray 31 = .ok (.bipush 13, 2) := by decide +kernel
theorem dX5_tray_33 : decode cX5_tray 33 = .ok (.invokevirtual 64, 3) := by decide +kernel
theorem dX5_tray_36 : decode cX5_tray 36 = .ok (.aload_n 0, 1) := by decide +kernel
theorem dX5_tray_37 : decode cX5_tray 37 = .ok (.invokevirtual 68, 3) := by decide +kernel
theorem dX5_tray_40 : decode cX5_tray 40 = .ok (.invokevirtual 71, 3) := by decide +kernel
theorem dX5_tray_43 : decode cX5_tray 43 = .ok (.aload_n 0, 1) := by decide +kernel
theorem dX5_tray_44 : decode cX5_tray 44 = .ok (.iconst 0, 1) := by decide +kernel
theorem dX5_tray_45 : decode cX5_tray 45 = .ok (.putfield 75, 3) := by decide +kernel
theorem dX5_tray_48 : decode cX5_tray 48 = .ok (.aload_n 0, 1) := by decide +kernel
theorem dX5_tray_49 : decode cX5_tray 49 = .ok (.iconst 0, 1) := by decide +kernel
theorem dX5_tray_50 : decode cX5_tray 50 = .ok (.putfield 56, 3) := by decide +kernel
theorem dX5_tray_53 : decode cX5_tray 53 = .ok (.aload_n 0, 1) := by decide +kernel
theorem dX5_tray_54 : decode cX5_tray 54 = .ok (.dup, 1) := by decide +kernel
theorem dX5_tray_55 : decode cX5_tray 55 = .ok (.getfield 79, 3) := by decide +kernel
theorem dX5_tray_58 : decode cX5_tray 58 = .ok (.iconst 1, 1) := by decide +kernel
theorem dX5_tray_59 : decode cX5_tray 59 = .ok (.iadd, 1) := by decide +kernel
theorem dX5_tray_60 : decode cX5_tray 60 = .ok (.putfield 79, 3) := by decide +kernel
theorem dX5_tray_63 : decode cX5_tray 63 = .ok (.aload_n 0, 1) := by decide +kernel
theorem dX5_tray_64 : decode cX5_tray 64 = .ok (.getfield 10, 3) := by decide +kernel
theorem dX5_tray_67 : decode cX5_tray 67 = .ok (.aload_n 0, 1) := by decide +kernel
theorem dX5_tray_68 : decode cX5_tray 68 = .ok (.getfield 38, 3) := by decide +kernel
theorem dX5_tray_71 : decode cX5_tray 71 = .ok (.getfield 82, 3) := by decide +kernel
theorem dX5_tray_74 : decode cX5_tray 74 = .ok (.iconst 5, 1) := by decide +kernel
theorem dX5_tray_75 : decode cX5_tray 75 = .ok (.invokevirtual 85, 3) := by decide +kernel
theorem dX5_tray_78 : decode cX5_tray 78 = .ok (.ireturn, 1) := by decide +kernel
theorem dX5_tile_0 : decode cX5_tile 0 = .ok (.aload_n 0, 1) := by decide +kernel
theorem dX5_tile_1 : decode cX5_tile 1 = .ok (.iload_n 1, 1) := by decide +kernel
theorem dX5_tile_2 : decode cX5_tile 2 = .ok (.invokevirtual 89, 3) := by decide +kernel
theorem dX5_tile_5 : decode cX5_tile 5 = .ok (.ifCond .ne 6, 3) := by decide +kernel
theorem dX5_tile_8 : decode cX5_tile 8 = .ok (.bipush (-101), 2) := by decide +kernel
theorem dX5_tile_10 : decode cX5_tile 10 = .ok (.ireturn, 1) := by decide +kernel
theorem dX5_tile_11 : decode cX5_tile 11 = .ok (.iload_n 2, 1) := by decide +kernel
theorem dX5_tile_12 : decode cX5_tile 12 = .ok (.tableswitch 177 0 6 #[44, 56, 72, 88, 111, 120, 132], 44) := by decide +kernel
theorem dX5_tile_56 : decode cX5_tile 56 = .ok (.aload_n 0, 1) := by decide +kernel
theorem dX5_tile_57 : decode cX5_tile 57 = .ok (.getfield 38, 3) := by decide +kernel
theorem dX5_tile_60 : decode cX5_tile 60 = .ok (.getfield 93, 3) := by decide +kernel
theorem dX5_tile_63 : decode cX5_tile 63 = .ok (.iload_n 1, 1) := by decide +kernel
theorem dX5_tile_64 : decode cX5_tile 64 = .ok (.invokestatic 96, 3) := by decide +kernel
theorem dX5_tile_67 : decode cX5_tile 67 = .ok (.ireturn, 1) := by decide +kernel
theorem dX5_tile_68 : decode cX5_tile 68 = .ok (.aload_n 0, 1) := by decide +kernel
theorem dX5_tile_69 : decode cX5_tile 69 = .ok (.getfield 10, 3) := by decide +kernel
theorem dX5_tile_72 : decode cX5_tile 72 = .ok (.aload_n 0, 1) := by decide +kernel
theorem dX5_tile_73 : decode cX5_tile 73 = .ok (.getfield 38, 3) := by decide +kernel
theorem dX5_tile_76 : decode cX5_tile 76 = .ok (.getfield 82, 3) := by decide +kernel
theorem dX5_tile_79 : decode cX5_tile 79 = .ok (.iload_n 1, 1) := by decide +kernel
theorem dX5_tile_80 : decode cX5_tile 80 = .ok (.invokevirtual 85, 3) := by decide +kernel
theorem dX5_tile_83 : decode cX5_tile 83 = .ok (.ireturn, 1) := by decide +kernel
theorem dX5_tile_84 : decode cX5_tile 84 = .ok (.aload_n 0, 1) := by decide +kernel
theorem dX5_tile_85 : decode cX5_tile 85 = .ok (.getfield 10, 3) := by decide +kernel
theorem dX5_tile_88 : decode cX5_tile 88 = .ok (.aload_n 0, 1) := by decide +kernel
theorem dX5_tile_89 : decode cX5_tile 89 = .ok (.getfield 38, 3) := by decide +kernel
theorem dX5_tile_92 : decode cX5_tile 92 = .ok (.getfield 99, 3) := by decide +kernel
theorem dX5_tile_95 : decode cX5_tile 95 = .ok (.iload_n 1, 1) := by decide +kernel
theorem dX5_tile_96 : decode cX5_tile 96 = .ok (.invokevirtual 85, 3) := by decide +kernel
theorem dX5_tile_99 : decode cX5_tile 99 = .ok (.ireturn, 1) := by decide +kernel
theorem dX5_tile_100 : decode cX5_tile 100 = .ok (.aload_n 0, 1) := by decide +kernel
theorem dX5_tile_101 : decode cX5_tile 101 = .ok (.getfield 10, 3) := by decide +kernel
theorem dX5_tile_104 : decode cX5_tile 104 = .ok (.aload_n 0, 1) := by decide +kernel
theorem dX5_tile_105 : decode cX5_tile 105 = .ok (.getfield 38, 3) := by decide +kernel
theorem dX5_tile_108 : decode cX5_tile 108 = .ok (.getfield 82, 3) := by decide +kernel
theorem dX5_tile_111 : decode cX5_tile 111 = .ok (.iload_n 1, 1) := by decide +kernel
theorem dX5_tile_112 : decode cX5_tile 112 = .ok (.aload_n 0, 1) := by decide +kernel
theorem dX5_tile_113 : decode cX5_tile 113 = .ok (.getfield 38, 3) := by decide +kernel
theorem dX5_tile_116 : decode cX5_tile 116 = .ok (.getfield 93, 3) := by decide +kernel
theorem dX5_tile_119 : decode cX5_tile 119 = .ok (.invokevirtual 102, 3) := by decide +kernel
theorem dX5_tile_122 : decode cX5_tile 122 = .ok (.ireturn, 1) := by decide +kernel
theorem dX5_tile_123 : decode cX5_tile 123 = .ok (.aload_n 0, 1) := by decide +kernel
theorem dX5_tile_124 : decode cX5_tile 124 = .ok (.getfield 38, 3) := by decide +kernel
theorem dX5_tile_127 : decode cX5_tile 127 = .ok (.iload_n 1, 1) := by decide +kernel
theorem dX5_tile_128 : decode cX5_tile 128 = .ok (.invokevirtual 106, 3) := by decide +kernel
theorem dX5_tile_131 : decode cX5_tile 131 = .ok (.ireturn, 1) := by decide +kernel
theorem dX5_tile_132 : decode cX5_tile 132 = .ok (.aload_n 0, 1) := by decide +kernel
theorem dX5_tile_133 : decode cX5_tile 133 = .ok (.getfield 38, 3) := by decide +kernel
theorem dX5_tile_136 : decode cX5_tile 136 = .ok (.iload_n 1, 1) := by decide +kernel
theorem dX5_tile_137 : decode cX5_tile 137 = .ok (.invokevirtual 106, 3) := by decide +kernel
theorem dX5_tile_140 : decode cX5_tile 140 = .ok (.invokestatic 109, 3) := by decide +kernel
theorem dX5_tile_143 : decode cX5_tile 143 = .ok (.ireturn, 1) := by decide +kernel
theorem dX5_tile_144 : decode cX5_tile 144 = .ok (.aload_n 0, 1) := by decide +kernel
theorem dX5_tile_145 : decode cX5_tile 145 = .ok (.getfield 21, 3) := by decide +kernel
theorem dX5_tile_148 : decode cX5_tile 148 = .ok (.aload_n 0, 1) := by decide +kernel
theorem dX5_tile_149 : decode cX5_tile 149 = .ok (.getfield 38, 3) := by decide +kernel
theorem dX5_tile_152 : decode cX5_tile 152 = .ok (.getfield 82, 3) := by decide +kernel
theorem dX5_tile_155 : decode cX5_tile 155 = .ok (.aload_n 0, 1) := by decide +kernel
theorem dX5_tile_156 : decode cX5_tile 156 = .ok (.getfield 38, 3) := by decide +kernel
theorem dX5_tile_159 : decode cX5_tile 159 = .ok (.getfield 93, 3) := by decide +kernel
theorem dX5_tile_162 : decode cX5_tile 162 = .ok (.invokevirtual 112, 3) := by decide +kernel
theorem dX5_tile_165 : decode cX5_tile 165 = .ok (.aload_n 0, 1) := by decide +kernel
theorem dX5_tile_166 : decode cX5_tile 166 = .ok (.getfield 21, 3) := by decide +kernel
theorem dX5_tile_169 : decode cX5_tile 169 = .ok (.iload_n 1, 1) := by decide +kernel
theorem dX5_tile_170 : decode cX5_tile 170 = .ok (.aload_n 0, 1) := by decide +kernel
theorem dX5_tile_171 : decode cX5_tile 171 = .ok (.getfield 10, 3) := by decide +kernel
theorem dX5_tile_174 : decode cX5_tile 174 = .ok (.aload_n 0, 1) := by decide +kernel
theorem dX5_tile_175 : decode cX5_tile 175 = .ok (.getfield 38, 3) := by decide +kernel
theorem dX5_tile_178 : decode cX5_tile 178 = .ok (.getfield 99, 3) := by decide +kernel
theorem dX5_tile_181 : decode cX5_tile 181 = .ok (.iload_n 1, 1) := by decide +kernel
theorem dX5_tile_182 : decode cX5_tile 182 = .ok (.invokevirtual 85, 3) := by decide +kernel
theorem dX5_tile_185 : decode cX5_tile 185 = .ok (.invokevirtual 116, 3) := by decide +kernel
theorem dX5_tile_188 : decode cX5_tile 188 = .ok (.ireturn, 1) := by decide +kernel
theorem dX5_tile_189 : decode cX5_tile 189 = .ok (.bipush (-102), 2) := by decide +kernel
theorem dX5_tile_191 : decode cX5_tile 191 = .ok (.ireturn, 1) := by decide +kernel
theorem dX5_as_0 : decode cX5_as 0 = .ok (.aload_n 0, 1) := by decide +kernel
theorem dX5_as_1 : decode cX5_as 1 = .ok (.iload_n 1, 1) := by decide +kernel
theorem dX5_as_2 : decode cX5_as 2 = .ok (.invokevirtual 89, 3) := by decide +kernel
theorem dX5_as_5 : decode cX5_as 5 = .ok (.ifCond .ne 6, 3) := by decide +kernel
theorem dX5_as_8 : decode cX5_as 8 = .ok (.bipush (-101), 2) := by decide +kernel
theorem dX5_as_10 : decode cX5_as 10 = .ok (.ireturn, 1) := by decide +kernel
theorem dX5_as_11 : decode cX5_as 11 = .ok (.iload_n 2, 1) := by decide +kernel
theorem dX5_as_12 : decode cX5_as 12 = .ok (.invokestatic 119, 3) := by decide +kernel
theorem dX5_as_15 : decode cX5_as 15 = .ok (.ifCond .ne 6, 3) := by decide +kernel
theorem dX5_as_18 : decode cX5_as 18 = .ok (.bipush (-102), 2) := by decide +kernel
theorem dX5_as_20 : decode cX5_as 20 = .ok (.ireturn, 1) := by decide +kernel
theorem dX5_as_21 : decode cX5_as 21 = .ok (.getstatic 122, 3) := by decide +kernel
theorem dX5_as_24 : decode cX5_as 24 = .ok (.aload_n 0, 1) := by decide +kernel
theorem dX5_as_25 : decode cX5_as 25 = .ok (.getfield 38, 3) := by decide +kernel
theorem dX5_as_28 : decode cX5_as 28 = .ok (.getfield 93, 3) := by decide +kernel
theorem dX5_as_31 : decode cX5_as 31 = .ok (.iload_n 1, 1) := by decide +kernel
theorem dX5_as_32 : decode cX5_as 32 = .ok (.invokestatic 96, 3) := by decide +kernel
theorem dX5_as_35 : decode cX5_as 35 = .ok (.aaload, 1) := by decide +kernel
theorem dX5_as_36 : decode cX5_as 36 = .ok (.iload_n 2, 1) := by decide +kernel
theorem dX5_as_37 : decode cX5_as 37 = .ok (.invokevirtual 126, 3) := by decide +kernel
theorem dX5_as_40 : decode cX5_as 40 = .ok (.ifCond .eq 7, 3) := by decide +kernel
theorem dX5_as_43 : decode cX5_as 43 = .ok (.iload_n 1, 1) := by decide +kernel
theorem dX5_as_44 : decode cX5_as 44 = .ok (.goto 4, 3) := by decide +kernel
theorem dX5_as_47 : decode cX5_as 47 = .ok (.iconst (-1), 1) := by decide +kernel
theorem dX5_as_48 : decode cX5_as 48 = .ok (.ireturn, 1) := by decide +kernel
theorem dX5_cell_0 : decode cX5_cell 0 = .ok (.aload_n 0, 1) := by decide +kernel
theorem dX5_cell_1 : decode cX5_cell 1 = .ok (.iload_n 1, 1) := by decide +kernel
theorem dX5_cell_2 : decode cX5_cell 2 = .ok (.invokevirtual 131, 3) := by decide +kernel
theorem dX5_cell_5 : decode cX5_cell 5 = .ok (.ifCond .ne 6, 3) := by decide +kernel
theorem dX5_cell_8 : decode cX5_cell 8 = .ok (.bipush (-101), 2) := by decide +kernel
theorem dX5_cell_10 : decode cX5_cell 10 = .ok (.ireturn, 1) := by decide +kernel
theorem dX5_cell_11 : decode cX5_cell 11 = .ok (.iload_n 2, 1) := by decide +kernel
theorem dX5_cell_12 : decode cX5_cell 12 = .ok (.tableswitch 94 0 2 #[28, 47, 66], 28) := by decide +kernel
theorem dX5_cell_40 : decode cX5_cell 40 = .ok (.aload_n 0, 1) := by decide +kernel
theorem dX5_cell_41 : decode cX5_cell 41 = .ok (.getfield 10, 3) := by decide +kernel
theorem dX5_cell_44 : decode cX5_cell 44 = .ok (.aload_n 0, 1) := by decide +kernel
theorem dX5_cell_45 : decode cX5_cell 45 = .ok (.getfield 38, 3) := by decide +kernel
theorem dX5_cell_48 : decode cX5_cell 48 = .ok (.getfield 82, 3) := by decide +kernel
theorem dX5_cell_51 : decode cX5_cell 51 = .ok (.iload_n 1, 1) := by decide +kernel
theorem dX5_cell_52 : decode cX5_cell 52 = .ok (.invokevirtual 134, 3) := by decide +kernel
theorem dX5_cell_55 : decode cX5_cell 55 = .ok (.invokestatic 137, 3) := by decide +kernel
theorem dX5_cell_58 : decode cX5_cell 58 = .ok (.ireturn, 1) := by decide +kernel
theorem dX5_cell_59 : decode cX5_cell 59 = .ok (.aload_n 0, 1) := by decide +kernel
theorem dX5_cell_60 : decode cX5_cell 60 = .ok (.getfield 10, 3) := by decide +kernel
theorem dX5_cell_63 : decode cX5_cell 63 = .ok (.aload_n 0, 1) := by decide +kernel
theorem dX5_cell_64 : decode cX5_cell 64 = .ok (.getfield 38, 3) := by decide +kernel
theorem dX5_cell_67 : decode cX5_cell 67 = .ok (.getfield 99, 3) := by decide +kernel
theorem dX5_cell_70 : decode cX5_cell 70 = .ok (.iload_n 1, 1) := by decide +kernel
theorem dX5_cell_71 : decode cX5_cell 71 = .ok (.invokevirtual 134, 3) := by decide +kernel
theorem dX5_cell_74 : decode cX5_cell 74 = .ok (.invokestatic 137, 3) := by decide +kernel
theorem dX5_cell_77 : decode cX5_cell 77 = .ok (.ireturn, 1) := by decide +kernel
theorem dX5_cell_78 : decode cX5_cell 78 = .ok (.iload_n 1, 1) := by decide +kernel
theorem dX5_cell_79 : decode cX5_cell 79 = .ok (.aload_n 0, 1) := by decide +kernel
theorem dX5_cell_80 : decode cX5_cell 80 = .ok (.getfield 10, 3) := by decide +kernel
theorem dX5_cell_83 : decode cX5_cell 83 = .ok (.aload_n 0, 1) := by decide +kernel
theorem dX5_cell_84 : decode cX5_cell 84 = .ok (.getfield 38, 3) := by decide +kernel
theorem dX5_cell_87 : decode cX5_cell 87 = .ok (.getfield 82, 3) := by decide +kernel
theorem dX5_cell_90 : decode cX5_cell 90 = .ok (.iconst 5, 1) := by decide +kernel
theorem dX5_cell_91 : decode cX5_cell 91 = .ok (.invokevirtual 85, 3) := by decide +kernel
theorem dX5_cell_94 : decode cX5_cell 94 = .ok (.invokestatic 140, 3) := by decide +kernel
theorem dX5_cell_97 : decode cX5_cell 97 = .ok (.ifCond .eq 7, 3) := by decide +kernel
theorem dX5_cell_100 : decode cX5_cell 100 = .ok (.iconst 1, 1) := by decide +kernel
theorem dX5_cell_101 : decode cX5_cell 101 = .ok (.goto 4, 3) := by decide +kernel
theorem dX5_cell_104 : decode cX5_cell 104 = .ok (.iconst 0, 1) := by decide +kernel
theorem dX5_cell_105 : decode cX5_cell 105 = .ok (.ireturn, 1) := by decide +kernel
theorem dX5_cell_106 : decode cX5_cell 106 = .ok (.bipush (-102), 2) := by decide +kernel
theorem dX5_cell_108 : decode cX5_cell 108 = .ok (.ireturn, 1) := by decide +kernel
theorem dX5_push_0 : decode cX5_push 0 = .ok (.aload_n 0, 1) := by decide +kernel
theorem dX5_push_1 : decode cX5_push 1 = .ok (.iload_n 1, 1) := by decide +kernel
theorem dX5_push_2 : decode cX5_push 2 = .ok (.invokevirtual 89, 3) := by decide +kernel
theorem dX5_push_5 : decode cX5_push 5 = .ok (.ifCond .ne 6, 3) := by decide +kernel
theorem dX5_push_8 : decode cX5_push 8 = .ok (.bipush (-101), 2) := by decide +kernel
theorem dX5_push_10 : decode cX5_push 10 = .ok (.ireturn, 1) := by decide +kernel
theorem dX5_push_11 : decode cX5_push 11 = .ok (.aload_n 0, 1) := by decide +kernel
theorem dX5_push_12 : decode cX5_push 12 = .ok (.getfield 10, 3) := by decide +kernel
theorem dX5_push_15 : decode cX5_push 15 = .ok (.aload_n 0, 1) := by decide +kernel
theorem dX5_push_16 : decode cX5_push 16 = .ok (.getfield 38, 3) := by decide +kernel
theorem dX5_push_19 : decode cX5_push 19 = .ok (.getfield 82, 3) := by decide +kernel
theorem dX5_push_22 : decode cX5_push 22 = .ok (.iload_n 1, 1) := by decide +kernel
theorem dX5_push_23 : decode cX5_push 23 = .ok (.aload_n 0, 1) := by decide +kernel
theorem dX5_push_24 : decode cX5_push 24 = .ok (.getfield 38, 3) := by decide +kernel
theorem dX5_push_27 : decode cX5_push 27 = .ok (.getfield 93, 3) := by decide +kernel
theorem dX5_push_30 : decode cX5_push 30 = .ok (.invokevirtual 102, 3) := by decide +kernel
theorem dX5_push_33 : decode cX5_push 33 = .ok (.istore_n 2, 1) := by decide +kernel
theorem dX5_push_34 : decode cX5_push 34 = .ok (.iload_n 2, 1) := by decide +kernel
theorem dX5_push_35 : decode cX5_push 35 = .ok (.iconst (-1), 1) := by decide +kernel
theorem dX5_push_36 : decode cX5_push 36 = .ok (.if_icmp .ne 6, 3) := by decide +kernel
theorem dX5_push_39 : decode cX5_push 39 = .ok (.bipush (-103), 2) := by decide +kernel
theorem dX5_push_41 : decode cX5_push 41 = .ok (.ireturn, 1) := by decide +kernel
theorem dX5_push_42 : decode cX5_push 42 = .ok (.aload_n 0, 1) := by decide +kernel
theorem dX5_push_43 : decode cX5_push 43 = .ok (.getfield 38, 3) := by decide +kernel
theorem dX5_push_46 : decode cX5_push 46 = .ok (.getfield 144, 3) := by decide +kernel
theorem dX5_push_49 : decode cX5_push 49 = .ok (.sipush 999, 3) := by decide +kernel
theorem dX5_push_52 : decode cX5_push 52 = .ok (.if_icmp .lt 6, 3) := by decide +kernel
theorem dX5_push_55 : decode cX5_push 55 = .ok (.bipush (-104), 2) := by decide +kernel
theorem dX5_push_57 : decode cX5_push 57 = .ok (.ireturn, 1) := by decide +kernel
theorem dX5_push_58 : decode cX5_push 58 = .ok (.aload_n 0, 1) := by decide +kernel
theorem dX5_push_59 : decode cX5_push 59 = .ok (.getfield 38, 3) := by decide +kernel
theorem dX5_push_62 : decode cX5_push 62 = .ok (.aload_n 0, 1) := by decide +kernel
theorem dX5_push_63 : decode cX5_push 63 = .ok (.getfield 10, 3) := by decide +kernel
theorem dX5_push_66 : decode cX5_push 66 = .ok (.aload_n 0, 1) := by decide +kernel
theorem dX5_push_67 : decode cX5_push 67 = .ok (.getfield 38, 3) := by decide +kernel
theorem dX5_push_70 : decode cX5_push 70 = .ok (.getfield 82, 3) := by decide +kernel
theorem dX5_push_73 : decode cX5_push 73 = .ok (.iload_n 1, 1) := by decide +kernel
theorem dX5_push_74 : decode cX5_push 74 = .ok (.invokevirtual 147, 3) := by decide +kernel
theorem dX5_push_77 : decode cX5_push 77 = .ok (.putfield 82, 3) := by decide +kernel
theorem dX5_push_80 : decode cX5_push 80 = .ok (.aload_n 0, 1) := by decide +kernel
theorem dX5_push_81 : decode cX5_push 81 = .ok (.getfield 38, 3) := by decide +kernel
theorem dX5_push_84 : decode cX5_push 84 = .ok (.dup, 1) := by decide +kernel
theorem dX5_push_85 : decode cX5_push 85 = .ok (.getfield 144, 3) := by decide +kernel
theorem dX5_push_88 : decode cX5_push 88 = .ok (.iconst 1, 1) := by decide +kernel
theorem dX5_push_89 : decode cX5_push 89 = .ok (.iadd, 1) := by decide +kernel
theorem dX5_push_90 : decode cX5_push 90 = .ok (.putfield 144, 3) := by decide +kernel
theorem dX5_push_93 : decode cX5_push 93 = .ok (.aload_n 0, 1) := by decide +kernel
theorem dX5_push_94 : decode cX5_push 94 = .ok (.getfield 38, 3) := by decide +kernel
theorem dX5_push_97 : decode cX5_push 97 = .ok (.dup, 1) := by decide +kernel
theorem dX5_push_98 : decode cX5_push 98 = .ok (.getfield 150, 3) := by decide +kernel
theorem dX5_push_101 : decode cX5_push 101 = .ok (.iload_n 2, 1) := by decide +kernel
theorem dX5_push_102 : decode cX5_push 102 = .ok (.iadd, 1) := by decide +kernel
theorem dX5_push_103 : decode cX5_push 103 = .ok (.putfield 150, 3) := by decide +kernel
theorem dX5_push_106 : decode cX5_push 106 = .ok (.iload_n 2, 1) := by decide +kernel
theorem dX5_push_107 : decode cX5_push 107 = .ok (.ireturn, 1) := by decide +kernel
theorem dX5_exchange_0 : decode cX5_exchange 0 = .ok (.aload_n 0, 1) := by decide +kernel
theorem dX5_exchange_1 : decode cX5_exchange 1 = .ok (.iload_n 1, 1) := by decide +kernel
theorem dX5_exchange_2 : decode cX5_exchange 2 = .ok (.invokevirtual 131, 3) := by decide +kernel
theorem dX5_exchange_5 : decode cX5_exchange 5 = .ok (.ifCond .eq 16, 3) := by decide +kernel
theorem dX5_exchange_8 : decode cX5_exchange 8 = .ok (.aload_n 0, 1) := by decide +kernel
theorem dX5_exchange_9 : decode cX5_exchange 9 = .ok (.iload_n 2, 1) := by decide +kernel
theorem dX5_exchange_10 : decode cX5_exchange 10 = .ok (.invokevirtual 131, 3) := by decide +kernel
theorem dX5_exchange_13 : decode cX5_exchange 13 = .ok (.ifCond .eq 8, 3) := by decide +kernel
theorem dX5_exchange_16 : decode cX5_exchange 16 = .ok (.iload_n 1, 1) := by decide +kernel
theorem dX5_exchange_17 : decode cX5_exchange 17 = .ok (.iload_n 2, 1) := by decide +kernel
theorem dX5_exchange_18 : decode cX5_exchange 18 = .ok (.if_icmp .ne 6, 3) := by decide +kernel
theorem dX5_exchange_21 : decode cX5_exchange 21 = .ok (.bipush (-101), 2) := by decide +kernel
theorem dX5_exchange_23 : decode cX5_exchange 23 = .ok (.ireturn, 1) := by decide +kernel
theorem dX5_exchange_24 : decode cX5_exchange 24 = .ok (.aload_n 0, 1) := by decide +kernel
theorem dX5_exchange_25 : decode cX5_exchange 25 = .ok (.getfield 38, 3) := by decide +kernel
theorem dX5_exchange_28 : decode cX5_exchange 28 = .ok (.aload_n 0, 1) := by decide +kernel
theorem dX5_exchange_29 : decode cX5_exchange 29 = .ok (.getfield 10, 3) := by decide +kernel
theorem dX5_exchange_32 : decode cX5_exchange 32 = .ok (.aload_n 0, 1) := by decide +kernel
theorem dX5_exchange_33 : decode cX5_exchange 33 = .ok (.getfield 38, 3) := by decide +kernel
theorem dX5_exchange_36 : decode cX5_exchange 36 = .ok (.getfield 82, 3) := by decide +kernel
theorem dX5_exchange_39 : decode cX5_exchange 39 = .ok (.iload_n 1, 1) := by decide +kernel
theorem dX5_exchange_40 : decode cX5_exchange 40 = .ok (.iload_n 2, 1) := by decide +kernel
theorem dX5_exchange_41 : decode cX5_exchange 41 = .ok (.invokevirtual 153, 3) := by decide +kernel
theorem dX5_exchange_44 : decode cX5_exchange 44 = .ok (.putfield 82, 3) := by decide +kernel
theorem dX5_exchange_47 : decode cX5_exchange 47 = .ok (.aload_n 0, 1) := by decide +kernel
theorem dX5_exchange_48 : decode cX5_exchange 48 = .ok (.getfield 10, 3) := by decide +kernel
theorem dX5_exchange_51 : decode cX5_exchange 51 = .ok (.aload_n 0, 1) := by decide +kernel
theorem dX5_exchange_52 : decode cX5_exchange 52 = .ok (.getfield 38, 3) := by decide +kernel
theorem dX5_exchange_55 : decode cX5_exchange 55 = .ok (.getfield 82, 3) := by decide +kernel
theorem dX5_exchange_58 : decode cX5_exchange 58 = .ok (.iconst 5, 1) := by decide +kernel
theorem dX5_exchange_59 : decode cX5_exchange 59 = .ok (.invokevirtual 85, 3) := by decide +kernel
theorem dX5_exchange_62 : decode cX5_exchange 62 = .ok (.ireturn, 1) := by decide +kernel
theorem dX5_aim_0 : decode cX5_aim 0 = .ok (.aload_n 0, 1) := by decide +kernel
theorem dX5_aim_1 : decode cX5_aim 1 = .ok (.iload_n 1, 1) := by decide +kernel
theorem dX5_aim_2 : decode cX5_aim 2 = .ok (.invokevirtual 131, 3) := by decide +kernel
theorem dX5_aim_5 : decode cX5_aim 5 = .ok (.ifCond .eq 16, 3) := by decide +kernel
theorem dX5_aim_8 : decode cX5_aim 8 = .ok (.aload_n 0, 1) := by decide +kernel
theorem dX5_aim_9 : decode cX5_aim 9 = .ok (.iload_n 2, 1) := by decide +kernel
theorem dX5_aim_10 : decode cX5_aim 10 = .ok (.invokevirtual 131, 3) := by decide +kernel
theorem dX5_aim_13 : decode cX5_aim 13 = .ok (.ifCond .eq 8, 3) := by decide +kernel
theorem dX5_aim_16 : decode cX5_aim 16 = .ok (.iload_n 1, 1) := by decide +kernel
theorem dX5_aim_17 : decode cX5_aim 17 = .ok (.iload_n 2, 1) := by decide +kernel
theorem dX5_aim_18 : decode cX5_aim 18 = .ok (.if_icmp .ne 6, 3) := by decide +kernel
theorem dX5_aim_21 : decode cX5_aim 21 = .ok (.bipush (-101), 2) := by decide +kernel
theorem dX5_aim_23 : decode cX5_aim 23 = .ok (.ireturn, 1) := by decide +kernel
theorem dX5_aim_24 : decode cX5_aim 24 = .ok (.aload_n 0, 1) := by decide +kernel
theorem dX5_aim_25 : decode cX5_aim 25 = .ok (.getfield 38, 3) := by decide +kernel
theorem dX5_aim_28 : decode cX5_aim 28 = .ok (.aload_n 0, 1) := by decide +kernel
theorem dX5_aim_29 : decode cX5_aim 29 = .ok (.getfield 10, 3) := by decide +kernel
theorem dX5_aim_32 : decode cX5_aim 32 = .ok (.aload_n 0, 1) := by decide +kernel
theorem dX5_aim_33 : decode cX5_aim 33 = .ok (.getfield 38, 3) := by decide +kernel
theorem dX5_aim_36 : decode cX5_aim 36 = .ok (.getfield 99, 3) := by decide +kernel
theorem dX5_aim_39 : decode cX5_aim 39 = .ok (.iload_n 1, 1) := by decide +kernel
theorem dX5_aim_40 : decode cX5_aim 40 = .ok (.iload_n 2, 1) := by decide +kernel
theorem dX5_aim_41 : decode cX5_aim 41 = .ok (.invokevirtual 153, 3) := by decide +kernel
theorem dX5_aim_44 : decode cX5_aim 44 = .ok (.putfield 99, 3) := by decide +kernel
theorem dX5_aim_47 : decode cX5_aim 47 = .ok (.aload_n 0, 1) := by decide +kernel
theorem dX5_aim_48 : decode cX5_aim 48 = .ok (.getfield 10, 3) := by decide +kernel
theorem dX5_aim_51 : decode cX5_aim 51 = .ok (.aload_n 0, 1) := by decide +kernel
theorem dX5_aim_52 : decode cX5_aim 52 = .ok (.getfield 38, 3) := by decide +kernel
theorem dX5_aim_55 : decode cX5_aim 55 = .ok (.getfield 99, 3) := by decide +kernel
theorem dX5_aim_58 : decode cX5_aim 58 = .ok (.iconst 5, 1) := by decide +kernel
theorem dX5_aim_59 : decode cX5_aim 59 = .ok (.invokevirtual 85, 3) := by decide +kernel
theorem dX5_aim_62 : decode cX5_aim 62 = .ok (.ireturn, 1) := by decide +kernel
theorem dX5_recast_0 : decode cX5_recast 0 = .ok (.aload_n 0, 1) := by decide +kernel
theorem dX5_recast_1 : decode cX5_recast 1 = .ok (.iload_n 1, 1) := by decide +kernel
theorem dX5_recast_2 : decode cX5_recast 2 = .ok (.invokevirtual 89, 3) := by decide +kernel
theorem dX5_recast_5 : decode cX5_recast 5 = .ok (.ifCond .ne 6, 3) := by decide +kernel
theorem dX5_recast_8 : decode cX5_recast 8 = .ok (.bipush (-101), 2) := by decide +kernel
theorem dX5_recast_10 : decode cX5_recast 10 = .ok (.ireturn, 1) := by decide +kernel
theorem dX5_recast_11 : decode cX5_recast 11 = .ok (.iload_n 2, 1) := by decide +kernel
theorem dX5_recast_12 : decode cX5_recast 12 = .ok (.invokestatic 119, 3) := by decide +kernel
theorem dX5_recast_15 : decode cX5_recast 15 = .ok (.ifCond .ne 6, 3) := by decide +kernel
theorem dX5_recast_18 : decode cX5_recast 18 = .ok (.bipush (-102), 2) := by decide +kernel
theorem dX5_recast_20 : decode cX5_recast 20 = .ok (.ireturn, 1) := by decide +kernel
theorem dX5_recast_21 : decode cX5_recast 21 = .ok (.aload_n 0, 1) := by decide +kernel
theorem dX5_recast_22 : decode cX5_recast 22 = .ok (.getfield 38, 3) := by decide +kernel
theorem dX5_recast_25 : decode cX5_recast 25 = .ok (.getfield 93, 3) := by decide +kernel
theorem dX5_recast_28 : decode cX5_recast 28 = .ok (.iload_n 1, 1) := by decide +kernel
theorem dX5_recast_29 : decode cX5_recast 29 = .ok (.invokestatic 96, 3) := by decide +kernel
theorem dX5_recast_32 : decode cX5_recast 32 = .ok (.istore_n 3, 1) := by decide +kernel
theorem dX5_recast_33 : decode cX5_recast 33 = .ok (.aload_n 0, 1) := by decide +kernel
theorem dX5_recast_34 : decode cX5_recast 34 = .ok (.getfield 38, 3) := by decide +kernel
theorem dX5_recast_37 : decode cX5_recast 37 = .ok (.aload_n 0, 1) := by decide +kernel
theorem dX5_recast_38 : decode cX5_recast 38 = .ok (.getfield 38, 3) := by decide +kernel
theorem dX5_recast_41 : decode cX5_recast 41 = .ok (.getfield 93, 3) := by decide +kernel
theorem dX5_recast_44 : decode cX5_recast 44 = .ok (.iload_n 1, 1) := by decide +kernel
theorem dX5_recast_45 : decode cX5_recast 45 = .ok (.iload_n 2, 1) := by decide +kernel
theorem dX5_recast_46 : decode cX5_recast 46 = .ok (.invokestatic 156, 3) := by decide +kernel
theorem dX5_recast_49 : decode cX5_recast 49 = .ok (.putfield 93, 3) := by decide +kernel
theorem dX5_recast_52 : decode cX5_recast 52 = .ok (.iload_n 3, 1) := by decide +kernel
theorem dX5_recast_53 : decode cX5_recast 53 = .ok (.ireturn, 1) := by decide +kernel
theorem dX5_least_0 : decode cX5_least 0 = .ok (.iload_n 1, 1) := by decide +kernel
theorem dX5_least_1 : decode cX5_least 1 = .ok (.iconst 0, 1) := by decide +kernel
theorem dX5_least_2 : decode cX5_least 2 = .ok (.iconst 2, 1) := by decide +kernel
theorem dX5_least_3 : decode cX5_least 3 = .ok (.invokestatic 52, 3) := by decide +kernel
theorem dX5_least_6 : decode cX5_least 6 = .ok (.ifCond .ne 6, 3) := by decide +kernel
theorem dX5_least_9 : decode cX5_least 9 = .ok (.bipush (-102), 2) := by decide +kernel
theorem dX5_least_11 : decode cX5_least 11 = .ok (.ireturn, 1) := by decide +kernel
theorem dX5_least_12 : decode cX5_least 12 = .ok (.aload_n 0, 1) := by decide +kernel
theorem dX5_least_13 : decode cX5_least 13 = .ok (.invokevirtual 159, 3) := by decide +kernel
theorem dX5_least_16 : decode cX5_least 16 = .ok (.ifCond .ne 6, 3) := by decide +kernel
theorem dX5_least_19 : decode cX5_least 19 = .ok (.bipush (-103), 2) := by decide +kernel
theorem dX5_least_21 : decode cX5_least 21 = .ok (.ireturn, 1) := by decide +kernel
theorem dX5_least_22 : decode cX5_least 22 = .ok (.aload_n 0, 1) := by decide +kernel
theorem dX5_least_23 : decode cX5_least 23 = .ok (.getfield 25, 3) := by decide +kernel
theorem dX5_least_26 : decode cX5_least 26 = .ok (.aload_n 0, 1) := by decide +kernel
theorem dX5_least_27 : decode cX5_least 27 = .ok (.getfield 38, 3) := by decide +kernel
theorem dX5_least_30 : decode cX5_least 30 = .ok (.getfield 99, 3) := by decide +kernel
theorem dX5_least_33 : decode cX5_least 33 = .ok (.aload_n 0, 1) := by decide +kernel
theorem dX5_least_34 : decode cX5_least 34 = .ok (.getfield 38, 3) := by decide +kernel
theorem dX5_least_37 : decode cX5_least 37 = .ok (.getfield 93, 3) := by decide +kernel
theorem dX5_least_40 : decode cX5_least 40 = .ok (.invokevirtual 112, 3) := by decide +kernel
theorem dX5_least_43 : decode cX5_least 43 = .ok (.iload_n 1, 1) := by decide +kernel
theorem dX5_least_44 : decode cX5_least 44 = .ok (.ifCond .ne 18, 3) := by decide +kernel
theorem dX5_least_47 : decode cX5_least 47 = .ok (.aload_n 0, 1) := by decide +kernel
theorem dX5_least_48 : decode cX5_least 48 = .ok (.getfield 25, 3) := by decide +kernel
theorem dX5_least_51 : decode cX5_least 51 = .ok (.aload_n 0, 1) := by decide +kernel
theorem dX5_least_52 : decode cX5_least 52 = .ok (.getfield 38, 3) := by decide +kernel
theorem dX5_least_55 : decode cX5_least 55 = .ok (.getfield 82, 3) := by decide +kernel
theorem dX5_least_58 : decode cX5_least 58 = .ok (.invokevirtual 163, 3) := by decide +kernel
theorem dX5_least_61 : decode cX5_least 61 = .ok (.ireturn, 1) := by decide +kernel
theorem dX5_least_62 : decode cX5_least 62 = .ok (.iload_n 1, 1) := by decide +kernel
theorem dX5_least_63 : decode cX5_least 63 = .ok (.iconst 1, 1) := by decide +kernel
theorem dX5_least_64 : decode cX5_least 64 = .ok (.if_icmp .ne 17, 3) := by decide +kernel
theorem dX5_least_67 : decode cX5_least 67 = .ok (.aload_n 0, 1) := by decide +kernel
theorem dX5_least_68 : decode cX5_least 68 = .ok (.aload_n 0, 1) := by decide +kernel
theorem dX5_least_69 : decode cX5_least 69 = .ok (.getfield 38, 3) := by decide +kernel
theorem dX5_least_72 : decode cX5_least 72 = .ok (.getfield 82, 3) := by decide +kernel
theorem dX5_least_75 : decode cX5_least 75 = .ok (.invokevirtual 166, 3) := by decide +kernel
theorem dX5_least_78 : decode cX5_least 78 = .ok (.goto 7, 3) := by decide +kernel
theorem dX5_least_81 : decode cX5_least 81 = .ok (.aload_n 0, 1) := by decide +kernel
theorem dX5_least_82 : decode cX5_least 82 = .ok (.invokevirtual 169, 3) := by decide +kernel
theorem dX5_least_85 : decode cX5_least 85 = .ok (.ireturn, 1) := by decide +kernel
theorem dX5_reach_0 : decode cX5_reach 0 = .ok (.iload_n 1, 1) := by decide +kernel
theorem dX5_reach_1 : decode cX5_reach 1 = .ok (.iconst 0, 1) := by decide +kernel
theorem dX5_reach_2 : decode cX5_reach 2 = .ok (.iconst 1, 1) := by decide +kernel
theorem dX5_reach_3 : decode cX5_reach 3 = .ok (.invokestatic 52, 3) := by decide +kernel
theorem dX5_reach_6 : decode cX5_reach 6 = .ok (.ifCond .ne 6, 3) := by decide +kernel
theorem dX5_reach_9 : decode cX5_reach 9 = .ok (.bipush (-102), 2) := by decide +kernel
theorem dX5_reach_11 : decode cX5_reach 11 = .ok (.ireturn, 1) := by decide +kernel
theorem dX5_reach_12 : decode cX5_reach 12 = .ok (.aload_n 0, 1) := by decide +kernel
theorem dX5_reach_13 : decode cX5_reach 13 = .ok (.invokevirtual 159, 3) := by decide +kernel
theorem dX5_reach_16 : decode cX5_reach 16 = .ok (.ifCond .ne 6, 3) := by decide +kernel
theorem dX5_reach_19 : decode cX5_reach 19 = .ok (.bipush (-103), 2) := by decide +kernel
theorem dX5_reach_21 : decode cX5_reach 21 = .ok (.ireturn, 1) := by decide +kernel
theorem dX5_reach_22 : decode cX5_reach 22 = .ok (.aload_n 0, 1) := by decide +kernel
theorem dX5_reach_23 : decode cX5_reach 23 = .ok (.getfield 21, 3) := by decide +kernel
theorem dX5_reach_26 : decode cX5_reach 26 = .ok (.aload_n 0, 1) := by decide +kernel
theorem dX5_reach_27 : decode cX5_reach 27 = .ok (.getfield 38, 3) := by decide +kernel
theorem dX5_reach_30 : decode cX5_reach 30 = .ok (.getfield 82, 3) := by decide +kernel
theorem dX5_reach_33 : decode cX5_reach 33 = .ok (.aload_n 0, 1) := by decide +kernel
theorem dX5_reach_34 : decode cX5_reach 34 = .ok (.getfield 38, 3) := by decide +kernel
theorem dX5_reach_37 : decode cX5_reach 37 = .ok (.getfield 93, 3) := by decide +kernel
theorem dX5_reach_40 : decode cX5_reach 40 = .ok (.invokevirtual 112, 3) := by decide +kernel
theorem dX5_reach_43 : decode cX5_reach 43 = .ok (.iload_n 1, 1) := by decide +kernel
theorem dX5_reach_44 : decode cX5_reach 44 = .ok (.ifCond .ne 13, 3) := by decide +kernel
theorem dX5_reach_47 : decode cX5_reach 47 = .ok (.aload_n 0, 1) := by decide +kernel
theorem dX5_reach_48 : decode cX5_reach 48 = .ok (.getfield 21, 3) := by decide +kernel
theorem dX5_reach_51 : decode cX5_reach 51 = .ok (.invokevirtual 172, 3) := by decide +kernel
theorem dX5_reach_54 : decode cX5_reach 54 = .ok (.goto 10, 3) := by decide +kernel
theorem dX5_reach_57 : decode cX5_reach 57 = .ok (.aload_n 0, 1) := by decide +kernel
theorem dX5_reach_58 : decode cX5_reach 58 = .ok (.getfield 21, 3) := by decide +kernel
theorem dX5_reach_61 : decode cX5_reach 61 = .ok (.invokevirtual 175, 3) := by decide +kernel
theorem dX5_reach_64 : decode cX5_reach 64 = .ok (.ireturn, 1) := by decide +kernel
theorem dX5_home_0 : decode cX5_home 0 = .ok (.aload_n 0, 1) := by decide +kernel
theorem dX5_home_1 : decode cX5_home 1 = .ok (.iload_n 1, 1) := by decide +kernel
theorem dX5_home_2 : decode cX5_home 2 = .ok (.invokevirtual 89, 3) := by decide +kernel
theorem dX5_home_5 : decode cX5_home 5 = .ok (.ifCond .eq 11, 3) := by decide +kernel
theorem dX5_home_8 : decode cX5_home 8 = .ok (.aload_n 0, 1) := by decide +kernel
theorem dX5_home_9 : decode cX5_home 9 = .ok (.iload_n 2, 1) := by decide +kernel
theorem dX5_home_10 : decode cX5_home 10 = .ok (.invokevirtual 131, 3) := by decide +kernel
