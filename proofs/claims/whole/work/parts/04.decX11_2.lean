theorem dX11_cellOf_79 : decode cX11_cellOf 79 = .ok (.invokevirtual 199, 3) := by decide +kernel
theorem dX11_cellOf_82 : decode cX11_cellOf 82 = .ok (.invokestatic 196, 3) := by decide +kernel
theorem dX11_cellOf_85 : decode cX11_cellOf 85 = .ok (.ireturn, 1) := by decide +kernel
theorem dX11_cartOf_0 : decode cX11_cartOf 0 = .ok (.aload_n 0, 1) := by decide +kernel
theorem dX11_cartOf_1 : decode cX11_cartOf 1 = .ok (.iload_n 1, 1) := by decide +kernel
theorem dX11_cartOf_2 : decode cX11_cartOf 2 = .ok (.invokevirtual 161, 3) := by decide +kernel
theorem dX11_cartOf_5 : decode cX11_cartOf 5 = .ok (.ifCond .eq 13, 3) := by decide +kernel
theorem dX11_cartOf_8 : decode cX11_cartOf 8 = .ok (.iload_n 2, 1) := by decide +kernel
theorem dX11_cartOf_9 : decode cX11_cartOf 9 = .ok (.iconst 0, 1) := by decide +kernel
theorem dX11_cartOf_10 : decode cX11_cartOf 10 = .ok (.bipush 8, 2) := by decide +kernel
theorem dX11_cartOf_12 : decode cX11_cartOf 12 = .ok (.invokestatic 44, 3) := by decide +kernel
theorem dX11_cartOf_15 : decode cX11_cartOf 15 = .ok (.ifCond .ne 6, 3) := by decide +kernel
theorem dX11_cartOf_18 : decode cX11_cartOf 18 = .ok (.ldc 48, 2) := by decide +kernel
theorem dX11_cartOf_20 : decode cX11_cartOf 20 = .ok (.ireturn, 1) := by decide +kernel
theorem dX11_cartOf_21 : decode cX11_cartOf 21 = .ok (.iload_n 2, 1) := by decide +kernel
theorem dX11_cartOf_22 : decode cX11_cartOf 22 = .ok (.tableswitch 103 0 8 #[50, 50, 103, 103, 72, 79, 85, 91, 91], 50) := by decide +kernel
theorem dX11_cartOf_72 : decode cX11_cartOf 72 = .ok (.aload_n 0, 1) := by decide +kernel
theorem dX11_cartOf_73 : decode cX11_cartOf 73 = .ok (.iload_n 1, 1) := by decide +kernel
theorem dX11_cartOf_74 : decode cX11_cartOf 74 = .ok (.invokevirtual 86, 3) := by decide +kernel
theorem dX11_cartOf_77 : decode cX11_cartOf 77 = .ok (.ifCond .eq 8, 3) := by decide +kernel
theorem dX11_cartOf_80 : decode cX11_cartOf 80 = .ok (.ldc 195, 2) := by decide +kernel
theorem dX11_cartOf_82 : decode cX11_cartOf 82 = .ok (.goto 11, 3) := by decide +kernel
theorem dX11_cartOf_85 : decode cX11_cartOf 85 = .ok (.aload_n 0, 1) := by decide +kernel
theorem dX11_cartOf_86 : decode cX11_cartOf 86 = .ok (.iload_n 1, 1) := by decide +kernel
theorem dX11_cartOf_87 : decode cX11_cartOf 87 = .ok (.iconst 1, 1) := by decide +kernel
theorem dX11_cartOf_88 : decode cX11_cartOf 88 = .ok (.iload_n 2, 1) := by decide +kernel
theorem dX11_cartOf_89 : decode cX11_cartOf 89 = .ok (.iadd, 1) := by decide +kernel
theorem dX11_cartOf_90 : decode cX11_cartOf 90 = .ok (.invokevirtual 56, 3) := by decide +kernel
theorem dX11_cartOf_93 : decode cX11_cartOf 93 = .ok (.ireturn, 1) := by decide +kernel
theorem dX11_cartOf_94 : decode cX11_cartOf 94 = .ok (.aload_n 0, 1) := by decide +kernel
theorem dX11_cartOf_95 : decode cX11_cartOf 95 = .ok (.iload_n 1, 1) := by decide +kernel
theorem dX11_cartOf_96 : decode cX11_cartOf 96 = .ok (.iconst 0, 1) := by decide +kernel
theorem dX11_cartOf_97 : decode cX11_cartOf 97 = .ok (.invokevirtual 56, 3) := by decide +kernel
theorem dX11_cartOf_100 : decode cX11_cartOf 100 = .ok (.ireturn, 1) := by decide +kernel
theorem dX11_cartOf_101 : decode cX11_cartOf 101 = .ok (.aload_n 0, 1) := by decide +kernel
theorem dX11_cartOf_102 : decode cX11_cartOf 102 = .ok (.iload_n 1, 1) := by decide +kernel
theorem dX11_cartOf_103 : decode cX11_cartOf 103 = .ok (.invokevirtual 202, 3) := by decide +kernel
theorem dX11_cartOf_106 : decode cX11_cartOf 106 = .ok (.ireturn, 1) := by decide +kernel
theorem dX11_cartOf_107 : decode cX11_cartOf 107 = .ok (.aload_n 0, 1) := by decide +kernel
theorem dX11_cartOf_108 : decode cX11_cartOf 108 = .ok (.iload_n 1, 1) := by decide +kernel
theorem dX11_cartOf_109 : decode cX11_cartOf 109 = .ok (.invokevirtual 164, 3) := by decide +kernel
theorem dX11_cartOf_112 : decode cX11_cartOf 112 = .ok (.ireturn, 1) := by decide +kernel
theorem dX11_cartOf_113 : decode cX11_cartOf 113 = .ok (.aload_n 0, 1) := by decide +kernel
theorem dX11_cartOf_114 : decode cX11_cartOf 114 = .ok (.iload_n 1, 1) := by decide +kernel
theorem dX11_cartOf_115 : decode cX11_cartOf 115 = .ok (.iconst 5, 1) := by decide +kernel
theorem dX11_cartOf_116 : decode cX11_cartOf 116 = .ok (.iload_n 2, 1) := by decide +kernel
theorem dX11_cartOf_117 : decode cX11_cartOf 117 = .ok (.iadd, 1) := by decide +kernel
theorem dX11_cartOf_118 : decode cX11_cartOf 118 = .ok (.bipush 7, 2) := by decide +kernel
theorem dX11_cartOf_120 : decode cX11_cartOf 120 = .ok (.isub, 1) := by decide +kernel
theorem dX11_cartOf_121 : decode cX11_cartOf 121 = .ok (.invokevirtual 56, 3) := by decide +kernel
theorem dX11_cartOf_124 : decode cX11_cartOf 124 = .ok (.ireturn, 1) := by decide +kernel
theorem dX11_cartOf_125 : decode cX11_cartOf 125 = .ok (.aload_n 0, 1) := by decide +kernel
theorem dX11_cartOf_126 : decode cX11_cartOf 126 = .ok (.iload_n 1, 1) := by decide +kernel
theorem dX11_cartOf_127 : decode cX11_cartOf 127 = .ok (.iconst 3, 1) := by decide +kernel
theorem dX11_cartOf_128 : decode cX11_cartOf 128 = .ok (.iload_n 2, 1) := by decide +kernel
theorem dX11_cartOf_129 : decode cX11_cartOf 129 = .ok (.iadd, 1) := by decide +kernel
theorem dX11_cartOf_130 : decode cX11_cartOf 130 = .ok (.iconst 2, 1) := by decide +kernel
theorem dX11_cartOf_131 : decode cX11_cartOf 131 = .ok (.isub, 1) := by decide +kernel
theorem dX11_cartOf_132 : decode cX11_cartOf 132 = .ok (.invokevirtual 56, 3) := by decide +kernel
theorem dX11_cartOf_135 : decode cX11_cartOf 135 = .ok (.ireturn, 1) := by decide +kernel
theorem dX11_cardOf_0 : decode cX11_cardOf 0 = .ok (.aload_n 0, 1) := by decide +kernel
theorem dX11_cardOf_1 : decode cX11_cardOf 1 = .ok (.iload_n 1, 1) := by decide +kernel
theorem dX11_cardOf_2 : decode cX11_cardOf 2 = .ok (.invokevirtual 161, 3) := by decide +kernel
theorem dX11_cardOf_5 : decode cX11_cardOf 5 = .ok (.ifCond .eq 21, 3) := by decide +kernel
theorem dX11_cardOf_8 : decode cX11_cardOf 8 = .ok (.iload_n 2, 1) := by decide +kernel
theorem dX11_cardOf_9 : decode cX11_cardOf 9 = .ok (.iconst 0, 1) := by decide +kernel
theorem dX11_cardOf_10 : decode cX11_cardOf 10 = .ok (.iconst 4, 1) := by decide +kernel
theorem dX11_cardOf_11 : decode cX11_cardOf 11 = .ok (.invokestatic 44, 3) := by decide +kernel
theorem dX11_cardOf_14 : decode cX11_cardOf 14 = .ok (.ifCond .eq 12, 3) := by decide +kernel
theorem dX11_cardOf_17 : decode cX11_cardOf 17 = .ok (.iload_n 3, 1) := by decide +kernel
theorem dX11_cardOf_18 : decode cX11_cardOf 18 = .ok (.iconst 0, 1) := by decide +kernel
theorem dX11_cardOf_19 : decode cX11_cardOf 19 = .ok (.iconst 1, 1) := by decide +kernel
theorem dX11_cardOf_20 : decode cX11_cardOf 20 = .ok (.invokestatic 44, 3) := by decide +kernel
theorem dX11_cardOf_23 : decode cX11_cardOf 23 = .ok (.ifCond .ne 6, 3) := by decide +kernel
theorem dX11_cardOf_26 : decode cX11_cardOf 26 = .ok (.ldc 48, 2) := by decide +kernel
theorem dX11_cardOf_28 : decode cX11_cardOf 28 = .ok (.ireturn, 1) := by decide +kernel
theorem dX11_cardOf_29 : decode cX11_cardOf 29 = .ok (.aload_n 0, 1) := by decide +kernel
theorem dX11_cardOf_30 : decode cX11_cardOf 30 = .ok (.iload_n 1, 1) := by decide +kernel
theorem dX11_cardOf_31 : decode cX11_cardOf 31 = .ok (.iload_n 2, 1) := by decide +kernel
theorem dX11_cardOf_32 : decode cX11_cardOf 32 = .ok (.invokevirtual 102, 3) := by decide +kernel
theorem dX11_cardOf_35 : decode cX11_cardOf 35 = .ok (.ifCond .ne 8, 3) := by decide +kernel
theorem dX11_cardOf_38 : decode cX11_cardOf 38 = .ok (.ldc 195, 2) := by decide +kernel
theorem dX11_cardOf_40 : decode cX11_cardOf 40 = .ok (.goto 16, 3) := by decide +kernel
theorem dX11_cardOf_43 : decode cX11_cardOf 43 = .ok (.aload_n 0, 1) := by decide +kernel
theorem dX11_cardOf_44 : decode cX11_cardOf 44 = .ok (.iload_n 1, 1) := by decide +kernel
theorem dX11_cardOf_45 : decode cX11_cardOf 45 = .ok (.bipush 7, 2) := by decide +kernel
theorem dX11_cardOf_47 : decode cX11_cardOf 47 = .ok (.iconst 2, 1) := by decide +kernel
theorem dX11_cardOf_48 : decode cX11_cardOf 48 = .ok (.iload_n 2, 1) := by decide +kernel
theorem dX11_cardOf_49 : decode cX11_cardOf 49 = .ok (.imul, 1) := by decide +kernel
theorem dX11_cardOf_50 : decode cX11_cardOf 50 = .ok (.iadd, 1) := by decide +kernel
theorem dX11_cardOf_51 : decode cX11_cardOf 51 = .ok (.iload_n 3, 1) := by decide +kernel
theorem dX11_cardOf_52 : decode cX11_cardOf 52 = .ok (.iadd, 1) := by decide +kernel
theorem dX11_cardOf_53 : decode cX11_cardOf 53 = .ok (.invokevirtual 56, 3) := by decide +kernel
theorem dX11_cardOf_56 : decode cX11_cardOf 56 = .ok (.ireturn, 1) := by decide +kernel
theorem dX11_turn_0 : decode cX11_turn 0 = .ok (.iload_n 1, 1) := by decide +kernel
theorem dX11_turn_1 : decode cX11_turn 1 = .ok (.ifCond .ge 6, 3) := by decide +kernel
theorem dX11_turn_4 : decode cX11_turn 4 = .ok (.ldc 48, 2) := by decide +kernel
theorem dX11_turn_6 : decode cX11_turn 6 = .ok (.ireturn, 1) := by decide +kernel
theorem dX11_turn_7 : decode cX11_turn 7 = .ok (.aload_n 0, 1) := by decide +kernel
theorem dX11_turn_8 : decode cX11_turn 8 = .ok (.invokevirtual 138, 3) := by decide +kernel
theorem dX11_turn_11 : decode cX11_turn 11 = .ok (.iload_n 1, 1) := by decide +kernel
theorem dX11_turn_12 : decode cX11_turn 12 = .ok (.aload_n 0, 1) := by decide +kernel
theorem dX11_turn_13 : decode cX11_turn 13 = .ok (.getfield 99, 3) := by decide +kernel
theorem dX11_turn_16 : decode cX11_turn 16 = .ok (.if_icmp .ge 12, 3) := by decide +kernel
theorem dX11_turn_19 : decode cX11_turn 19 = .ok (.aload_n 0, 1) := by decide +kernel
theorem dX11_turn_20 : decode cX11_turn 20 = .ok (.getfield 28, 3) := by decide +kernel
theorem dX11_turn_23 : decode cX11_turn 23 = .ok (.iload_n 1, 1) := by decide +kernel
theorem dX11_turn_24 : decode cX11_turn 24 = .ok (.iaload, 1) := by decide +kernel
theorem dX11_turn_25 : decode cX11_turn 25 = .ok (.goto 5, 3) := by decide +kernel
theorem dX11_turn_28 : decode cX11_turn 28 = .ok (.ldc 195, 2) := by decide +kernel
theorem dX11_turn_30 : decode cX11_turn 30 = .ok (.ireturn, 1) := by decide +kernel
theorem dX11_would_0 : decode cX11_would 0 = .ok (.aload_n 0, 1) := by decide +kernel
theorem dX11_would_1 : decode cX11_would 1 = .ok (.iload_n 1, 1) := by decide +kernel
theorem dX11_would_2 : decode cX11_would 2 = .ok (.invokevirtual 161, 3) := by decide +kernel
theorem dX11_would_5 : decode cX11_would 5 = .ok (.ifCond .eq 22, 3) := by decide +kernel
theorem dX11_would_8 : decode cX11_would 8 = .ok (.iload_n 2, 1) := by decide +kernel
theorem dX11_would_9 : decode cX11_would 9 = .ok (.iconst 0, 1) := by decide +kernel
theorem dX11_would_10 : decode cX11_would 10 = .ok (.bipush 20, 2) := by decide +kernel
theorem dX11_would_12 : decode cX11_would 12 = .ok (.invokestatic 44, 3) := by decide +kernel
theorem dX11_would_15 : decode cX11_would 15 = .ok (.ifCond .eq 12, 3) := by decide +kernel
theorem dX11_would_18 : decode cX11_would 18 = .ok (.iload_n 3, 1) := by decide +kernel
theorem dX11_would_19 : decode cX11_would 19 = .ok (.iconst 0, 1) := by decide +kernel
theorem dX11_would_20 : decode cX11_would 20 = .ok (.iconst 3, 1) := by decide +kernel
theorem dX11_would_21 : decode cX11_would 21 = .ok (.invokestatic 44, 3) := by decide +kernel
theorem dX11_would_24 : decode cX11_would 24 = .ok (.ifCond .ne 6, 3) := by decide +kernel
theorem dX11_would_27 : decode cX11_would 27 = .ok (.ldc 48, 2) := by decide +kernel
theorem dX11_would_29 : decode cX11_would 29 = .ok (.ireturn, 1) := by decide +kernel
theorem dX11_would_30 : decode cX11_would 30 = .ok (.aload_n 0, 1) := by decide +kernel
theorem dX11_would_31 : decode cX11_would 31 = .ok (.invokevirtual 205, 3) := by decide +kernel
theorem dX11_would_34 : decode cX11_would 34 = .ok (.iconst 0, 1) := by decide +kernel
theorem dX11_would_35 : decode cX11_would 35 = .ok (.istore 4, 2) := by decide +kernel
theorem dX11_would_37 : decode cX11_would 37 = .ok (.iload 4, 2) := by decide +kernel
theorem dX11_would_39 : decode cX11_would 39 = .ok (.iload_n 2, 1) := by decide +kernel
theorem dX11_would_40 : decode cX11_would 40 = .ok (.if_icmp .ge 15, 3) := by decide +kernel
theorem dX11_would_43 : decode cX11_would 43 = .ok (.aload_n 0, 1) := by decide +kernel
theorem dX11_would_44 : decode cX11_would 44 = .ok (.invokevirtual 170, 3) := by decide +kernel
theorem dX11_would_47 : decode cX11_would 47 = .ok (.istore 5, 2) := by decide +kernel
theorem dX11_would_49 : decode cX11_would 49 = .ok (.iinc 4 1, 3) := by decide +kernel
theorem dX11_would_52 : decode cX11_would 52 = .ok (.goto (-15), 3) := by decide +kernel
theorem dX11_would_55 : decode cX11_would 55 = .ok (.aload_n 0, 1) := by decide +kernel
theorem dX11_would_56 : decode cX11_would 56 = .ok (.iload_n 1, 1) := by decide +kernel
theorem dX11_would_57 : decode cX11_would 57 = .ok (.iload_n 3, 1) := by decide +kernel
theorem dX11_would_58 : decode cX11_would 58 = .ok (.invokevirtual 208, 3) := by decide +kernel
theorem dX11_would_61 : decode cX11_would 61 = .ok (.istore 4, 2) := by decide +kernel
theorem dX11_would_63 : decode cX11_would 63 = .ok (.aload_n 0, 1) := by decide +kernel
theorem dX11_would_64 : decode cX11_would 64 = .ok (.invokevirtual 211, 3) := by decide +kernel
theorem dX11_would_67 : decode cX11_would 67 = .ok (.iload 4, 2) := by decide +kernel
theorem dX11_would_69 : decode cX11_would 69 = .ok (.ireturn, 1) := by decide +kernel
theorem dX11_difference_0 : decode cX11_difference 0 = .ok (.iload_n 0, 1) := by decide +kernel
theorem dX11_difference_1 : decode cX11_difference 1 = .ok (.iload_n 1, 1) := by decide +kernel
theorem dX11_difference_2 : decode cX11_difference 2 = .ok (.if_icmp .ge 9, 3) := by decide +kernel
theorem dX11_difference_5 : decode cX11_difference 5 = .ok (.iload_n 1, 1) := by decide +kernel
theorem dX11_difference_6 : decode cX11_difference 6 = .ok (.iload_n 0, 1) := by decide +kernel
theorem dX11_difference_7 : decode cX11_difference 7 = .ok (.isub, 1) := by decide +kernel
theorem dX11_difference_8 : decode cX11_difference 8 = .ok (.goto 6, 3) := by decide +kernel
theorem dX11_difference_11 : decode cX11_difference 11 = .ok (.iload_n 0, 1) := by decide +kernel
theorem dX11_difference_12 : decode cX11_difference 12 = .ok (.iload_n 1, 1) := by decide +kernel
theorem dX11_difference_13 : decode cX11_difference 13 = .ok (.isub, 1) := by decide +kernel
theorem dX11_difference_14 : decode cX11_difference 14 = .ok (.ireturn, 1) := by decide +kernel
theorem dX11_far_0 : decode cX11_far 0 = .ok (.iload_n 0, 1) := by decide +kernel
theorem dX11_far_1 : decode cX11_far 1 = .ok (.bipush 8, 2) := by decide +kernel
theorem dX11_far_3 : decode cX11_far 3 = .ok (.irem, 1) := by decide +kernel
theorem dX11_far_4 : decode cX11_far 4 = .ok (.iload_n 1, 1) := by decide +kernel
theorem dX11_far_5 : decode cX11_far 5 = .ok (.bipush 8, 2) := by decide +kernel
theorem dX11_far_7 : decode cX11_far 7 = .ok (.irem, 1) := by decide +kernel
theorem dX11_far_8 : decode cX11_far 8 = .ok (.invokestatic 214, 3) := by decide +kernel
theorem dX11_far_11 : decode cX11_far 11 = .ok (.iload_n 0, 1) := by decide +kernel
theorem dX11_far_12 : decode cX11_far 12 = .ok (.bipush 8, 2) := by decide +kernel
theorem dX11_far_14 : decode cX11_far 14 = .ok (.idiv, 1) := by decide +kernel
theorem dX11_far_15 : decode cX11_far 15 = .ok (.iload_n 1, 1) := by decide +kernel
theorem dX11_far_16 : decode cX11_far 16 = .ok (.bipush 8, 2) := by decide +kernel
theorem dX11_far_18 : decode cX11_far 18 = .ok (.idiv, 1) := by decide +kernel
theorem dX11_far_19 : decode cX11_far 19 = .ok (.invokestatic 214, 3) := by decide +kernel
theorem dX11_far_22 : decode cX11_far 22 = .ok (.iadd, 1) := by decide +kernel
theorem dX11_far_23 : decode cX11_far 23 = .ok (.ireturn, 1) := by decide +kernel
theorem dX11_farBy_0 : decode cX11_farBy 0 = .ok (.aload_n 0, 1) := by decide +kernel
theorem dX11_farBy_1 : decode cX11_farBy 1 = .ok (.iload_n 1, 1) := by decide +kernel
theorem dX11_farBy_2 : decode cX11_farBy 2 = .ok (.iconst 5, 1) := by decide +kernel
theorem dX11_farBy_3 : decode cX11_farBy 3 = .ok (.invokevirtual 56, 3) := by decide +kernel
theorem dX11_farBy_6 : decode cX11_farBy 6 = .ok (.istore 5, 2) := by decide +kernel
theorem dX11_farBy_8 : decode cX11_farBy 8 = .ok (.aload_n 0, 1) := by decide +kernel
theorem dX11_farBy_9 : decode cX11_farBy 9 = .ok (.getfield 7, 3) := by decide +kernel
theorem dX11_farBy_12 : decode cX11_farBy 12 = .ok (.iconst 1, 1) := by decide +kernel
theorem dX11_farBy_13 : decode cX11_farBy 13 = .ok (.iaload, 1) := by decide +kernel
theorem dX11_farBy_14 : decode cX11_farBy 14 = .ok (.istore 6, 2) := by decide +kernel
theorem dX11_farBy_16 : decode cX11_farBy 16 = .ok (.aload_n 0, 1) := by decide +kernel
theorem dX11_farBy_17 : decode cX11_farBy 17 = .ok (.iload_n 1, 1) := by decide +kernel
theorem dX11_farBy_18 : decode cX11_farBy 18 = .ok (.bipush 7, 2) := by decide +kernel
theorem dX11_farBy_20 : decode cX11_farBy 20 = .ok (.iconst 2, 1) := by decide +kernel
theorem dX11_farBy_21 : decode cX11_farBy 21 = .ok (.iload 6, 2) := by decide +kernel
theorem dX11_farBy_23 : decode cX11_farBy 23 = .ok (.imul, 1) := by decide +kernel
theorem dX11_farBy_24 : decode cX11_farBy 24 = .ok (.iadd, 1) := by decide +kernel
theorem dX11_farBy_25 : decode cX11_farBy 25 = .ok (.iload_n 2, 1) := by decide +kernel
theorem dX11_farBy_26 : decode cX11_farBy 26 = .ok (.invokevirtual 60, 3) := by decide +kernel
theorem dX11_farBy_29 : decode cX11_farBy 29 = .ok (.aload_n 0, 1) := by decide +kernel
theorem dX11_farBy_30 : decode cX11_farBy 30 = .ok (.iload_n 1, 1) := by decide +kernel
theorem dX11_farBy_31 : decode cX11_farBy 31 = .ok (.bipush 7, 2) := by decide +kernel
theorem dX11_farBy_33 : decode cX11_farBy 33 = .ok (.iconst 2, 1) := by decide +kernel
theorem dX11_farBy_34 : decode cX11_farBy 34 = .ok (.iload 6, 2) := by decide +kernel
theorem dX11_farBy_36 : decode cX11_farBy 36 = .ok (.imul, 1) := by decide +kernel
theorem dX11_farBy_37 : decode cX11_farBy 37 = .ok (.iadd, 1) := by decide +kernel
theorem dX11_farBy_38 : decode cX11_farBy 38 = .ok (.iconst 1, 1) := by decide +kernel
theorem dX11_farBy_39 : decode cX11_farBy 39 = .ok (.iadd, 1) := by decide +kernel
theorem dX11_farBy_40 : decode cX11_farBy 40 = .ok (.iload_n 3, 1) := by decide +kernel
theorem dX11_farBy_41 : decode cX11_farBy 41 = .ok (.invokevirtual 60, 3) := by decide +kernel
theorem dX11_farBy_44 : decode cX11_farBy 44 = .ok (.aload_n 0, 1) := by decide +kernel
theorem dX11_farBy_45 : decode cX11_farBy 45 = .ok (.invokevirtual 170, 3) := by decide +kernel
theorem dX11_farBy_48 : decode cX11_farBy 48 = .ok (.istore 7, 2) := by decide +kernel
theorem dX11_farBy_50 : decode cX11_farBy 50 = .ok (.aload_n 0, 1) := by decide +kernel
theorem dX11_farBy_51 : decode cX11_farBy 51 = .ok (.iload_n 1, 1) := by decide +kernel
theorem dX11_farBy_52 : decode cX11_farBy 52 = .ok (.iconst 5, 1) := by decide +kernel
theorem dX11_farBy_53 : decode cX11_farBy 53 = .ok (.invokevirtual 56, 3) := by decide +kernel
theorem dX11_farBy_56 : decode cX11_farBy 56 = .ok (.iload 5, 2) := by decide +kernel
theorem dX11_farBy_58 : decode cX11_farBy 58 = .ok (.if_icmp .le 7, 3) := by decide +kernel
theorem dX11_farBy_61 : decode cX11_farBy 61 = .ok (.iconst (-1), 1) := by decide +kernel
theorem dX11_farBy_62 : decode cX11_farBy 62 = .ok (.goto 14, 3) := by decide +kernel
theorem dX11_farBy_65 : decode cX11_farBy 65 = .ok (.aload_n 0, 1) := by decide +kernel
theorem dX11_farBy_66 : decode cX11_farBy 66 = .ok (.iload_n 1, 1) := by decide +kernel
theorem dX11_farBy_67 : decode cX11_farBy 67 = .ok (.iconst 1, 1) := by decide +kernel
theorem dX11_farBy_68 : decode cX11_farBy 68 = .ok (.invokevirtual 56, 3) := by decide +kernel
theorem dX11_farBy_71 : decode cX11_farBy 71 = .ok (.iload 4, 2) := by decide +kernel
theorem dX11_farBy_73 : decode cX11_farBy 73 = .ok (.invokestatic 217, 3) := by decide +kernel
theorem dX11_farBy_76 : decode cX11_farBy 76 = .ok (.istore 8, 2) := by decide +kernel
theorem dX11_farBy_78 : decode cX11_farBy 78 = .ok (.aload_n 0, 1) := by decide +kernel
theorem dX11_farBy_79 : decode cX11_farBy 79 = .ok (.invokevirtual 211, 3) := by decide +kernel
theorem dX11_farBy_82 : decode cX11_farBy 82 = .ok (.iload 8, 2) := by decide +kernel
theorem dX11_farBy_84 : decode cX11_farBy 84 = .ok (.ireturn, 1) := by decide +kernel
theorem dX11_best_0 : decode cX11_best 0 = .ok (.aload_n 0, 1) := by decide +kernel
theorem dX11_best_1 : decode cX11_best 1 = .ok (.iload_n 1, 1) := by decide +kernel
theorem dX11_best_2 : decode cX11_best 2 = .ok (.invokevirtual 161, 3) := by decide +kernel
theorem dX11_best_5 : decode cX11_best 5 = .ok (.ifCond .eq 23, 3) := by decide +kernel
theorem dX11_best_8 : decode cX11_best 8 = .ok (.iload_n 2, 1) := by decide +kernel
theorem dX11_best_9 : decode cX11_best 9 = .ok (.iconst 1, 1) := by decide +kernel
theorem dX11_best_10 : decode cX11_best 10 = .ok (.sipush 999, 3) := by decide +kernel
theorem dX11_best_13 : decode cX11_best 13 = .ok (.invokestatic 44, 3) := by decide +kernel
theorem dX11_best_16 : decode cX11_best 16 = .ok (.ifCond .eq 12, 3) := by decide +kernel
theorem dX11_best_19 : decode cX11_best 19 = .ok (.iload_n 3, 1) := by decide +kernel
theorem dX11_best_20 : decode cX11_best 20 = .ok (.iconst 0, 1) := by decide +kernel
theorem dX11_best_21 : decode cX11_best 21 = .ok (.iconst 1, 1) := by decide +kernel
theorem dX11_best_22 : decode cX11_best 22 = .ok (.invokestatic 44, 3) := by decide +kernel
theorem dX11_best_25 : decode cX11_best 25 = .ok (.ifCond .ne 6, 3) := by decide +kernel
theorem dX11_best_28 : decode cX11_best 28 = .ok (.ldc 48, 2) := by decide +kernel
theorem dX11_best_30 : decode cX11_best 30 = .ok (.ireturn, 1) := by decide +kernel
theorem dX11_best_31 : decode cX11_best 31 = .ok (.aload_n 0, 1) := by decide +kernel
theorem dX11_best_32 : decode cX11_best 32 = .ok (.iload_n 1, 1) := by decide +kernel
theorem dX11_best_33 : decode cX11_best 33 = .ok (.invokevirtual 118, 3) := by decide +kernel
theorem dX11_best_36 : decode cX11_best 36 = .ok (.istore 4, 2) := by decide +kernel
theorem dX11_best_38 : decode cX11_best 38 = .ok (.aload_n 0, 1) := by decide +kernel
theorem dX11_best_39 : decode cX11_best 39 = .ok (.iload_n 1, 1) := by decide +kernel
theorem dX11_best_40 : decode cX11_best 40 = .ok (.invokevirtual 86, 3) := by decide +kernel
theorem dX11_best_43 : decode cX11_best 43 = .ok (.ifCond .ne 22, 3) := by decide +kernel
theorem dX11_best_46 : decode cX11_best 46 = .ok (.aload_n 0, 1) := by decide +kernel
theorem dX11_best_47 : decode cX11_best 47 = .ok (.iload_n 1, 1) := by decide +kernel
theorem dX11_best_48 : decode cX11_best 48 = .ok (.aload_n 0, 1) := by decide +kernel
theorem dX11_best_49 : decode cX11_best 49 = .ok (.getfield 7, 3) := by decide +kernel
theorem dX11_best_52 : decode cX11_best 52 = .ok (.iconst 1, 1) := by decide +kernel
theorem dX11_best_53 : decode cX11_best 53 = .ok (.iaload, 1) := by decide +kernel
theorem dX11_best_54 : decode cX11_best 54 = .ok (.invokevirtual 121, 3) := by decide +kernel
theorem dX11_best_57 : decode cX11_best 57 = .ok (.ifCond .ne 8, 3) := by decide +kernel
theorem dX11_best_60 : decode cX11_best 60 = .ok (.iload 4, 2) := by decide +kernel
theorem dX11_best_62 : decode cX11_best 62 = .ok (.ifCond .ge 6, 3) := by decide +kernel
theorem dX11_best_65 : decode cX11_best 65 = .ok (.ldc 159, 2) := by decide +kernel
theorem dX11_best_67 : decode cX11_best 67 = .ok (.ireturn, 1) := by decide +kernel
theorem dX11_best_68 : decode cX11_best 68 = .ok (.aload_n 0, 1) := by decide +kernel
theorem dX11_best_69 : decode cX11_best 69 = .ok (.invokevirtual 205, 3) := by decide +kernel
theorem dX11_best_72 : decode cX11_best 72 = .ok (.iconst (-1), 1) := by decide +kernel
theorem dX11_best_73 : decode cX11_best 73 = .ok (.istore 5, 2) := by decide +kernel
theorem dX11_best_75 : decode cX11_best 75 = .ok (.iconst 0, 1) := by decide +kernel
theorem dX11_best_76 : decode cX11_best 76 = .ok (.istore 6, 2) := by decide +kernel
theorem dX11_best_78 : decode cX11_best 78 = .ok (.iconst 0, 1) := by decide +kernel
theorem dX11_best_79 : decode cX11_best 79 = .ok (.istore 7, 2) := by decide +kernel
theorem dX11_best_81 : decode cX11_best 81 = .ok (.iload 7, 2) := by decide +kernel
theorem dX11_best_83 : decode cX11_best 83 = .ok (.bipush 7, 2) := by decide +kernel
theorem dX11_best_85 : decode cX11_best 85 = .ok (.if_icmp .ge 73, 3) := by decide +kernel
theorem dX11_best_88 : decode cX11_best 88 = .ok (.aload_n 0, 1) := by decide +kernel
theorem dX11_best_89 : decode cX11_best 89 = .ok (.iload_n 1, 1) := by decide +kernel
theorem dX11_best_90 : decode cX11_best 90 = .ok (.iload 7, 2) := by decide +kernel
theorem dX11_best_92 : decode cX11_best 92 = .ok (.iload_n 2, 1) := by decide +kernel
theorem dX11_best_93 : decode cX11_best 93 = .ok (.iload 4, 2) := by decide +kernel
theorem dX11_best_95 : decode cX11_best 95 = .ok (.invokevirtual 220, 3) := by decide +kernel
theorem dX11_best_98 : decode cX11_best 98 = .ok (.istore 8, 2) := by decide +kernel
theorem dX11_best_100 : decode cX11_best 100 = .ok (.iload 8, 2) := by decide +kernel
theorem dX11_best_102 : decode cX11_best 102 = .ok (.ifCond .lt 19, 3) := by decide +kernel
theorem dX11_best_105 : decode cX11_best 105 = .ok (.iload 5, 2) := by decide +kernel
theorem dX11_best_107 : decode cX11_best 107 = .ok (.ifCond .lt 10, 3) := by decide +kernel
theorem dX11_best_110 : decode cX11_best 110 = .ok (.iload 8, 2) := by decide +kernel
theorem dX11_best_112 : decode cX11_best 112 = .ok (.iload 6, 2) := by decide +kernel
theorem dX11_best_114 : decode cX11_best 114 = .ok (.if_icmp .ge 7, 3) := by decide +kernel
theorem dX11_best_117 : decode cX11_best 117 = .ok (.iconst 1, 1) := by decide +kernel
theorem dX11_best_118 : decode cX11_best 118 = .ok (.goto 4, 3) := by decide +kernel
theorem dX11_best_121 : decode cX11_best 121 = .ok (.iconst 0, 1) := by decide +kernel
theorem dX11_best_122 : decode cX11_best 122 = .ok (.istore 9, 2) := by decide +kernel
theorem dX11_best_124 : decode cX11_best 124 = .ok (.iload 9, 2) := by decide +kernel
theorem dX11_best_126 : decode cX11_best 126 = .ok (.ifCond .eq 8, 3) := by decide +kernel
theorem dX11_best_129 : decode cX11_best 129 = .ok (.iload 7, 2) := by decide +kernel
theorem dX11_best_131 : decode cX11_best 131 = .ok (.goto 5, 3) := by decide +kernel
theorem dX11_best_134 : decode cX11_best 134 = .ok (.iload 5, 2) := by decide +kernel
theorem dX11_best_136 : decode cX11_best 136 = .ok (.istore 5, 2) := by decide +kernel
theorem dX11_best_138 : decode cX11_best 138 = .ok (.iload 9, 2) := by decide +kernel
theorem dX11_best_140 : decode cX11_best 140 = .ok (.ifCond .eq 8, 3) := by decide +kernel
theorem dX11_best_143 : decode cX11_best 143 = .ok (.iload 8, 2) := by decide +kernel
theorem dX11_best_145 : decode cX11_best 145 = .ok (.goto 5, 3) := by decide +kernel
theorem dX11_best_148 : decode cX11_best 148 = .ok (.iload 6, 2) := by decide +kernel
theorem dX11_best_150 : decode cX11_best 150 = .ok (.istore 6, 2) := by decide +kernel
theorem dX11_best_152 : decode cX11_best 152 = .ok (.iinc 7 1, 3) := by decide +kernel
theorem dX11_best_155 : decode cX11_best 155 = .ok (.goto (-74), 3) := by decide +kernel
theorem dX11_best_158 : decode cX11_best 158 = .ok (.iload 5, 2) := by decide +kernel
theorem dX11_best_160 : decode cX11_best 160 = .ok (.ifCond .ge 8, 3) := by decide +kernel
theorem dX11_best_163 : decode cX11_best 163 = .ok (.ldc 195, 2) := by decide +kernel
theorem dX11_best_165 : decode cX11_best 165 = .ok (.goto 14, 3) := by decide +kernel
theorem dX11_best_168 : decode cX11_best 168 = .ok (.iload_n 3, 1) := by decide +kernel
theorem dX11_best_169 : decode cX11_best 169 = .ok (.ifCond .ne 8, 3) := by decide +kernel
theorem dX11_best_172 : decode cX11_best 172 = .ok (.iload 5, 2) := by decide +kernel
theorem dX11_best_174 : decode cX11_best 174 = .ok (.goto 5, 3) := by decide +kernel
theorem dX11_best_177 : decode cX11_best 177 = .ok (.iload 6, 2) := by decide +kernel
theorem dX11_best_179 : decode cX11_best 179 = .ok (.ireturn, 1) := by decide +kernel
theorem dX11_spreads_0 : decode cX11_spreads 0 = .ok (.iconst 0, 1) := by decide +kernel
theorem dX11_spreads_1 : decode cX11_spreads 1 = .ok (.istore_n 2, 1) := by decide +kernel
theorem dX11_spreads_2 : decode cX11_spreads 2 = .ok (.iconst 0, 1) := by decide +kernel
theorem dX11_spreads_3 : decode cX11_spreads 3 = .ok (.istore_n 3, 1) := by decide +kernel
theorem dX11_spreads_4 : decode cX11_spreads 4 = .ok (.iload_n 3, 1) := by decide +kernel
theorem dX11_spreads_5 : decode cX11_spreads 5 = .ok (.bipush 64, 2) := by decide +kernel
theorem dX11_spreads_7 : decode cX11_spreads 7 = .ok (.if_icmp .ge 98, 3) := by decide +kernel
theorem dX11_spreads_10 : decode cX11_spreads 10 = .ok (.iconst 0, 1) := by decide +kernel
theorem dX11_spreads_11 : decode cX11_spreads 11 = .ok (.istore 4, 2) := by decide +kernel
theorem dX11_spreads_13 : decode cX11_spreads 13 = .ok (.iload 4, 2) := by decide +kernel
theorem dX11_spreads_15 : decode cX11_spreads 15 = .ok (.iconst 4, 1) := by decide +kernel
theorem dX11_spreads_16 : decode cX11_spreads 16 = .ok (.if_icmp .ge 83, 3) := by decide +kernel
theorem dX11_spreads_19 : decode cX11_spreads 19 = .ok (.aload_n 0, 1) := by decide +kernel
theorem dX11_spreads_20 : decode cX11_spreads 20 = .ok (.getfield 38, 3) := by decide +kernel
theorem dX11_spreads_23 : decode cX11_spreads 23 = .ok (.iload_n 3, 1) := by decide +kernel
theorem dX11_spreads_24 : decode cX11_spreads 24 = .ok (.iaload, 1) := by decide +kernel
theorem dX11_spreads_25 : decode cX11_spreads 25 = .ok (.iload_n 1, 1) := by decide +kernel
theorem dX11_spreads_26 : decode cX11_spreads 26 = .ok (.if_icmp .ne 73, 3) := by decide +kernel
theorem dX11_spreads_29 : decode cX11_spreads 29 = .ok (.aload_n 0, 1) := by decide +kernel
theorem dX11_spreads_30 : decode cX11_spreads 30 = .ok (.iload_n 3, 1) := by decide +kernel
theorem dX11_spreads_31 : decode cX11_spreads 31 = .ok (.iload 4, 2) := by decide +kernel
theorem dX11_spreads_33 : decode cX11_spreads 33 = .ok (.invokevirtual 72, 3) := by decide +kernel
theorem dX11_spreads_36 : decode cX11_spreads 36 = .ok (.ifCond .eq 7, 3) := by decide +kernel
theorem dX11_spreads_39 : decode cX11_spreads 39 = .ok (.iconst (-1), 1) := by decide +kernel
theorem dX11_spreads_40 : decode cX11_spreads 40 = .ok (.goto 9, 3) := by decide +kernel
theorem dX11_spreads_43 : decode cX11_spreads 43 = .ok (.iload_n 3, 1) := by decide +kernel
theorem dX11_spreads_44 : decode cX11_spreads 44 = .ok (.iload 4, 2) := by decide +kernel
theorem dX11_spreads_46 : decode cX11_spreads 46 = .ok (.invokestatic 76, 3) := by decide +kernel
theorem dX11_spreads_49 : decode cX11_spreads 49 = .ok (.istore 5, 2) := by decide +kernel
theorem dX11_spreads_51 : decode cX11_spreads 51 = .ok (.iload 5, 2) := by decide +kernel
theorem dX11_spreads_53 : decode cX11_spreads 53 = .ok (.ifCond .lt 40, 3) := by decide +kernel
theorem dX11_spreads_56 : decode cX11_spreads 56 = .ok (.aload_n 0, 1) := by decide +kernel
theorem dX11_spreads_57 : decode cX11_spreads 57 = .ok (.getfield 7, 3) := by decide +kernel
theorem dX11_spreads_60 : decode cX11_spreads 60 = .ok (.bipush 11, 2) := by decide +kernel
theorem dX11_spreads_62 : decode cX11_spreads 62 = .ok (.iload 5, 2) := by decide +kernel
theorem dX11_spreads_64 : decode cX11_spreads 64 = .ok (.iadd, 1) := by decide +kernel
theorem dX11_spreads_65 : decode cX11_spreads 65 = .ok (.iaload, 1) := by decide +kernel
theorem dX11_spreads_66 : decode cX11_spreads 66 = .ok (.bipush 7, 2) := by decide +kernel
theorem dX11_spreads_68 : decode cX11_spreads 68 = .ok (.if_icmp .eq 25, 3) := by decide +kernel
theorem dX11_spreads_71 : decode cX11_spreads 71 = .ok (.aload_n 0, 1) := by decide +kernel
theorem dX11_spreads_72 : decode cX11_spreads 72 = .ok (.getfield 38, 3) := by decide +kernel
theorem dX11_spreads_75 : decode cX11_spreads 75 = .ok (.iload 5, 2) := by decide +kernel
theorem dX11_spreads_77 : decode cX11_spreads 77 = .ok (.iaload, 1) := by decide +kernel
theorem dX11_spreads_78 : decode cX11_spreads 78 = .ok (.ifCond .ge 15, 3) := by decide +kernel
theorem dX11_spreads_81 : decode cX11_spreads 81 = .ok (.aload_n 0, 1) := by decide +kernel
theorem dX11_spreads_82 : decode cX11_spreads 82 = .ok (.getfield 38, 3) := by decide +kernel
theorem dX11_spreads_85 : decode cX11_spreads 85 = .ok (.iload 5, 2) := by decide +kernel
theorem dX11_spreads_87 : decode cX11_spreads 87 = .ok (.iload_n 1, 1) := by decide +kernel
theorem dX11_spreads_88 : decode cX11_spreads 88 = .ok (.iconst 1, 1) := by decide +kernel
theorem dX11_spreads_89 : decode cX11_spreads 89 = .ok (.iadd, 1) := by decide +kernel
theorem dX11_spreads_90 : decode cX11_spreads 90 = .ok (.iastore, 1) := by decide +kernel
theorem dX11_spreads_91 : decode cX11_spreads 91 = .ok (.iconst 1, 1) := by decide +kernel
theorem dX11_spreads_92 : decode cX11_spreads 92 = .ok (.istore_n 2, 1) := by decide +kernel
theorem dX11_spreads_93 : decode cX11_spreads 93 = .ok (.iinc 4 1, 3) := by decide +kernel
theorem dX11_spreads_96 : decode cX11_spreads 96 = .ok (.goto (-83), 3) := by decide +kernel
theorem dX11_spreads_99 : decode cX11_spreads 99 = .ok (.iinc 3 1, 3) := by decide +kernel
theorem dX11_spreads_102 : decode cX11_spreads 102 = .ok (.goto (-98), 3) := by decide +kernel
theorem dX11_spreads_105 : decode cX11_spreads 105 = .ok (.iload_n 2, 1) := by decide +kernel
theorem dX11_spreads_106 : decode cX11_spreads 106 = .ok (.ireturn, 1) := by decide +kernel
theorem dX11_steps_0 : decode cX11_steps 0 = .ok (.iload_n 1, 1) := by decide +kernel
theorem dX11_steps_1 : decode cX11_steps 1 = .ok (.invokestatic 156, 3) := by decide +kernel
theorem dX11_steps_4 : decode cX11_steps 4 = .ok (.ifCond .eq 10, 3) := by decide +kernel
theorem dX11_steps_7 : decode cX11_steps 7 = .ok (.iload_n 2, 1) := by decide +kernel
theorem dX11_steps_8 : decode cX11_steps 8 = .ok (.invokestatic 156, 3) := by decide +kernel
theorem dX11_steps_11 : decode cX11_steps 11 = .ok (.ifCond .ne 6, 3) := by decide +kernel
theorem dX11_steps_14 : decode cX11_steps 14 = .ok (.ldc 48, 2) := by decide +kernel
theorem dX11_steps_16 : decode cX11_steps 16 = .ok (.ireturn, 1) := by decide +kernel
theorem dX11_steps_17 : decode cX11_steps 17 = .ok (.iconst 0, 1) := by decide +kernel
theorem dX11_steps_18 : decode cX11_steps 18 = .ok (.istore_n 3, 1) := by decide +kernel
theorem dX11_steps_19 : decode cX11_steps 19 = .ok (.iload_n 3, 1) := by decide +kernel
theorem dX11_steps_20 : decode cX11_steps 20 = .ok (.bipush 64, 2) := by decide +kernel
theorem dX11_steps_22 : decode cX11_steps 22 = .ok (.if_icmp .ge 25, 3) := by decide +kernel
theorem dX11_steps_25 : decode cX11_steps 25 = .ok (.aload_n 0, 1) := by decide +kernel
theorem dX11_steps_26 : decode cX11_steps 26 = .ok (.getfield 38, 3) := by decide +kernel
theorem dX11_steps_29 : decode cX11_steps 29 = .ok (.iload_n 3, 1) := by decide +kernel
theorem dX11_steps_30 : decode cX11_steps 30 = .ok (.iload_n 3, 1) := by decide +kernel
theorem dX11_steps_31 : decode cX11_steps 31 = .ok (.iload_n 1, 1) := by decide +kernel
theorem dX11_steps_32 : decode cX11_steps 32 = .ok (.if_icmp .ne 7, 3) := by decide +kernel
theorem dX11_steps_35 : decode cX11_steps 35 = .ok (.iconst 0, 1) := by decide +kernel
theorem dX11_steps_36 : decode cX11_steps 36 = .ok (.goto 4, 3) := by decide +kernel
theorem dX11_steps_39 : decode cX11_steps 39 = .ok (.iconst (-1), 1) := by decide +kernel
theorem dX11_steps_40 : decode cX11_steps 40 = .ok (.iastore, 1) := by decide +kernel
theorem dX11_steps_41 : decode cX11_steps 41 = .ok (.iinc 3 1, 3) := by decide +kernel
theorem dX11_steps_44 : decode cX11_steps 44 = .ok (.goto (-25), 3) := by decide +kernel
theorem dX11_steps_47 : decode cX11_steps 47 = .ok (.iconst 0, 1) := by decide +kernel
theorem dX11_steps_48 : decode cX11_steps 48 = .ok (.istore_n 3, 1) := by decide +kernel
theorem dX11_steps_49 : decode cX11_steps 49 = .ok (.aload_n 0, 1) := by decide +kernel
theorem dX11_steps_50 : decode cX11_steps 50 = .ok (.iload_n 3, 1) := by decide +kernel
theorem dX11_steps_51 : decode cX11_steps 51 = .ok (.invokevirtual 223, 3) := by decide +kernel
theorem dX11_steps_54 : decode cX11_steps 54 = .ok (.ifCond .eq 9, 3) := by decide +kernel
theorem dX11_steps_57 : decode cX11_steps 57 = .ok (.iinc 3 1, 3) := by decide +kernel
theorem dX11_steps_60 : decode cX11_steps 60 = .ok (.goto (-11), 3) := by decide +kernel
theorem dX11_steps_63 : decode cX11_steps 63 = .ok (.aload_n 0, 1) := by decide +kernel
theorem dX11_steps_64 : decode cX11_steps 64 = .ok (.getfield 38, 3) := by decide +kernel
theorem dX11_steps_67 : decode cX11_steps 67 = .ok (.iload_n 2, 1) := by decide +kernel
theorem dX11_steps_68 : decode cX11_steps 68 = .ok (.iaload, 1) := by decide +kernel
theorem dX11_steps_69 : decode cX11_steps 69 = .ok (.invokestatic 196, 3) := by decide +kernel
theorem dX11_steps_72 : decode cX11_steps 72 = .ok (.ireturn, 1) := by decide +kernel
theorem dX11_cartsOut_0 : decode cX11_cartsOut 0 = .ok (.iconst 0, 1) := by decide +kernel
theorem dX11_cartsOut_1 : decode cX11_cartsOut 1 = .ok (.istore_n 1, 1) := by decide +kernel
theorem dX11_cartsOut_2 : decode cX11_cartsOut 2 = .ok (.iconst 0, 1) := by decide +kernel
theorem dX11_cartsOut_3 : decode cX11_cartsOut 3 = .ok (.istore_n 2, 1) := by decide +kernel
theorem dX11_cartsOut_4 : decode cX11_cartsOut 4 = .ok (.iload_n 2, 1) := by decide +kernel
theorem dX11_cartsOut_5 : decode cX11_cartsOut 5 = .ok (.aload_n 0, 1) := by decide +kernel
theorem dX11_cartsOut_6 : decode cX11_cartsOut 6 = .ok (.getfield 7, 3) := by decide +kernel
theorem dX11_cartsOut_9 : decode cX11_cartsOut 9 = .ok (.iconst 0, 1) := by decide +kernel
theorem dX11_cartsOut_10 : decode cX11_cartsOut 10 = .ok (.iaload, 1) := by decide +kernel
theorem dX11_cartsOut_11 : decode cX11_cartsOut 11 = .ok (.if_icmp .ge 25, 3) := by decide +kernel
theorem dX11_cartsOut_14 : decode cX11_cartsOut 14 = .ok (.iload_n 1, 1) := by decide +kernel
theorem dX11_cartsOut_15 : decode cX11_cartsOut 15 = .ok (.aload_n 0, 1) := by decide +kernel
theorem dX11_cartsOut_16 : decode cX11_cartsOut 16 = .ok (.iload_n 2, 1) := by decide +kernel
theorem dX11_cartsOut_17 : decode cX11_cartsOut 17 = .ok (.invokevirtual 86, 3) := by decide +kernel
theorem dX11_cartsOut_20 : decode cX11_cartsOut 20 = .ok (.ifCond .eq 7, 3) := by decide +kernel
theorem dX11_cartsOut_23 : decode cX11_cartsOut 23 = .ok (.iconst 1, 1) := by decide +kernel
theorem dX11_cartsOut_24 : decode cX11_cartsOut 24 = .ok (.goto 4, 3) := by decide +kernel
theorem dX11_cartsOut_27 : decode cX11_cartsOut 27 = .ok (.iconst 0, 1) := by decide +kernel
theorem dX11_cartsOut_28 : decode cX11_cartsOut 28 = .ok (.iadd, 1) := by decide +kernel
theorem dX11_cartsOut_29 : decode cX11_cartsOut 29 = .ok (.istore_n 1, 1) := by decide +kernel
theorem dX11_cartsOut_30 : decode cX11_cartsOut 30 = .ok (.iinc 2 1, 3) := by decide +kernel
theorem dX11_cartsOut_33 : decode cX11_cartsOut 33 = .ok (.goto (-29), 3) := by decide +kernel
theorem dX11_cartsOut_36 : decode cX11_cartsOut 36 = .ok (.iload_n 1, 1) := by decide +kernel
theorem dX11_cartsOut_37 : decode cX11_cartsOut 37 = .ok (.ireturn, 1) := by decide +kernel
theorem dX11_count_0 : decode cX11_count 0 = .ok (.iload_n 1, 1) := by decide +kernel
theorem dX11_count_1 : decode cX11_count 1 = .ok (.tableswitch 79 4 9 #[39, 44, 54, 61, 66, 71], 39) := by decide +kernel
theorem dX11_count_40 : decode cX11_count 40 = .ok (.aload_n 0, 1) := by decide +kernel
theorem dX11_count_41 : decode cX11_count 41 = .ok (.invokevirtual 226, 3) := by decide +kernel
theorem dX11_count_44 : decode cX11_count 44 = .ok (.ireturn, 1) := by decide +kernel
theorem dX11_count_45 : decode cX11_count 45 = .ok (.aload_n 0, 1) := by decide +kernel
theorem dX11_count_46 : decode cX11_count 46 = .ok (.getfield 7, 3) := by decide +kernel
theorem dX11_count_49 : decode cX11_count 49 = .ok (.iconst 4, 1) := by decide +kernel
theorem dX11_count_50 : decode cX11_count 50 = .ok (.iaload, 1) := by decide +kernel
theorem dX11_count_51 : decode cX11_count 51 = .ok (.invokestatic 196, 3) := by decide +kernel
theorem dX11_count_54 : decode cX11_count 54 = .ok (.ireturn, 1) := by decide +kernel
theorem dX11_count_55 : decode cX11_count 55 = .ok (.aload_n 0, 1) := by decide +kernel
theorem dX11_count_56 : decode cX11_count 56 = .ok (.getfield 7, 3) := by decide +kernel
theorem dX11_count_59 : decode cX11_count 59 = .ok (.iconst 5, 1) := by decide +kernel
theorem dX11_count_60 : decode cX11_count 60 = .ok (.iaload, 1) := by decide +kernel
theorem dX11_count_61 : decode cX11_count 61 = .ok (.ireturn, 1) := by decide +kernel
theorem dX11_count_62 : decode cX11_count 62 = .ok (.aload_n 0, 1) := by decide +kernel
theorem dX11_count_63 : decode cX11_count 63 = .ok (.getfield 52, 3) := by decide +kernel
theorem dX11_count_66 : decode cX11_count 66 = .ok (.ireturn, 1) := by decide +kernel
theorem dX11_count_67 : decode cX11_count 67 = .ok (.aload_n 0, 1) := by decide +kernel
theorem dX11_count_68 : decode cX11_count 68 = .ok (.getfield 229, 3) := by decide +kernel
theorem dX11_count_71 : decode cX11_count 71 = .ok (.ireturn, 1) := by decide +kernel
theorem dX11_count_72 : decode cX11_count 72 = .ok (.aload_n 0, 1) := by decide +kernel
theorem dX11_count_73 : decode cX11_count 73 = .ok (.getfield 7, 3) := by decide +kernel
theorem dX11_count_76 : decode cX11_count 76 = .ok (.bipush 6, 2) := by decide +kernel
theorem dX11_count_78 : decode cX11_count 78 = .ok (.iaload, 1) := by decide +kernel
theorem dX11_count_79 : decode cX11_count 79 = .ok (.ireturn, 1) := by decide +kernel
theorem dX11_count_80 : decode cX11_count 80 = .ok (.iload_n 1, 1) := by decide +kernel
theorem dX11_count_81 : decode cX11_count 81 = .ok (.iconst 0, 1) := by decide +kernel
theorem dX11_count_82 : decode cX11_count 82 = .ok (.iconst 3, 1) := by decide +kernel
theorem dX11_count_83 : decode cX11_count 83 = .ok (.invokestatic 44, 3) := by decide +kernel
theorem dX11_count_86 : decode cX11_count 86 = .ok (.ifCond .eq 12, 3) := by decide +kernel
theorem dX11_count_89 : decode cX11_count 89 = .ok (.aload_n 0, 1) := by decide +kernel
theorem dX11_count_90 : decode cX11_count 90 = .ok (.getfield 7, 3) := by decide +kernel
theorem dX11_count_93 : decode cX11_count 93 = .ok (.iload_n 1, 1) := by decide +kernel
theorem dX11_count_94 : decode cX11_count 94 = .ok (.iaload, 1) := by decide +kernel
theorem dX11_count_95 : decode cX11_count 95 = .ok (.goto 5, 3) := by decide +kernel
theorem dX11_count_98 : decode cX11_count 98 = .ok (.ldc 48, 2) := by decide +kernel
theorem dX11_count_100 : decode cX11_count 100 = .ok (.ireturn, 1) := by decide +kernel
theorem dX11_undo_0 : decode cX11_undo 0 = .ok (.aload_n 0, 1) := by decide +kernel
theorem dX11_undo_1 : decode cX11_undo 1 = .ok (.getfield 52, 3) := by decide +kernel
theorem dX11_undo_4 : decode cX11_undo 4 = .ok (.ifCond .ne 6, 3) := by decide +kernel
theorem dX11_undo_7 : decode cX11_undo 7 = .ok (.ldc 159, 2) := by decide +kernel
theorem dX11_undo_9 : decode cX11_undo 9 = .ok (.ireturn, 1) := by decide +kernel
theorem dX11_undo_10 : decode cX11_undo 10 = .ok (.aload_n 0, 1) := by decide +kernel
theorem dX11_undo_11 : decode cX11_undo 11 = .ok (.dup, 1) := by decide +kernel
theorem dX11_undo_12 : decode cX11_undo 12 = .ok (.getfield 52, 3) := by decide +kernel
theorem dX11_undo_15 : decode cX11_undo 15 = .ok (.iconst 1, 1) := by decide +kernel
theorem dX11_undo_16 : decode cX11_undo 16 = .ok (.isub, 1) := by decide +kernel
theorem dX11_undo_17 : decode cX11_undo 17 = .ok (.putfield 52, 3) := by decide +kernel
theorem dX11_undo_20 : decode cX11_undo 20 = .ok (.iconst 0, 1) := by decide +kernel
theorem dX11_undo_21 : decode cX11_undo 21 = .ok (.istore_n 1, 1) := by decide +kernel
theorem dX11_undo_22 : decode cX11_undo 22 = .ok (.iload_n 1, 1) := by decide +kernel
theorem dX11_undo_23 : decode cX11_undo 23 = .ok (.sipush 207, 3) := by decide +kernel
theorem dX11_undo_26 : decode cX11_undo 26 = .ok (.if_icmp .ge 30, 3) := by decide +kernel
theorem dX11_undo_29 : decode cX11_undo 29 = .ok (.aload_n 0, 1) := by decide +kernel
theorem dX11_undo_30 : decode cX11_undo 30 = .ok (.getfield 7, 3) := by decide +kernel
theorem dX11_undo_33 : decode cX11_undo 33 = .ok (.iload_n 1, 1) := by decide +kernel
theorem dX11_undo_34 : decode cX11_undo 34 = .ok (.aload_n 0, 1) := by decide +kernel
theorem dX11_undo_35 : decode cX11_undo 35 = .ok (.getfield 19, 3) := by decide +kernel
theorem dX11_undo_38 : decode cX11_undo 38 = .ok (.sipush 207, 3) := by decide +kernel
theorem dX11_undo_41 : decode cX11_undo 41 = .ok (.aload_n 0, 1) := by decide +kernel
theorem dX11_undo_42 : decode cX11_undo 42 = .ok (.getfield 52, 3) := by decide +kernel
theorem dX11_undo_45 : decode cX11_undo 45 = .ok (.imul, 1) := by decide +kernel
theorem dX11_undo_46 : decode cX11_undo 46 = .ok (.iload_n 1, 1) := by decide +kernel
theorem dX11_undo_47 : decode cX11_undo 47 = .ok (.iadd, 1) := by decide +kernel
theorem dX11_undo_48 : decode cX11_undo 48 = .ok (.iaload, 1) := by decide +kernel
theorem dX11_undo_49 : decode cX11_undo 49 = .ok (.iastore, 1) := by decide +kernel
theorem dX11_undo_50 : decode cX11_undo 50 = .ok (.iinc 1 1, 3) := by decide +kernel
theorem dX11_undo_53 : decode cX11_undo 53 = .ok (.goto (-31), 3) := by decide +kernel
theorem dX11_undo_56 : decode cX11_undo 56 = .ok (.aload_n 0, 1) := by decide +kernel
theorem dX11_undo_57 : decode cX11_undo 57 = .ok (.getfield 52, 3) := by decide +kernel
theorem dX11_undo_60 : decode cX11_undo 60 = .ok (.ireturn, 1) := by decide +kernel
theorem dX11_type_0 : decode cX11_type 0 = .ok (.iload_n 1, 1) := by decide +kernel
theorem dX11_type_1 : decode cX11_type 1 = .ok (.bipush 32, 2) := by decide +kernel
theorem dX11_type_3 : decode cX11_type 3 = .ok (.bipush 126, 2) := by decide +kernel
theorem dX11_type_5 : decode cX11_type 5 = .ok (.invokestatic 44, 3) := by decide +kernel
theorem dX11_type_8 : decode cX11_type 8 = .ok (.ifCond .ne 6, 3) := by decide +kernel
theorem dX11_type_11 : decode cX11_type 11 = .ok (.ldc 48, 2) := by decide +kernel
theorem dX11_type_13 : decode cX11_type 13 = .ok (.ireturn, 1) := by decide +kernel
theorem dX11_type_14 : decode cX11_type 14 = .ok (.aload_n 0, 1) := by decide +kernel
theorem dX11_type_15 : decode cX11_type 15 = .ok (.getfield 229, 3) := by decide +kernel
theorem dX11_type_18 : decode cX11_type 18 = .ok (.bipush 60, 2) := by decide +kernel
theorem dX11_type_20 : decode cX11_type 20 = .ok (.if_icmp .ne 6, 3) := by decide +kernel
theorem dX11_type_23 : decode cX11_type 23 = .ok (.ldc 160, 2) := by decide +kernel
theorem dX11_type_25 : decode cX11_type 25 = .ok (.ireturn, 1) := by decide +kernel
theorem dX11_type_26 : decode cX11_type 26 = .ok (.aload_n 0, 1) := by decide +kernel
theorem dX11_type_27 : decode cX11_type 27 = .ok (.getfield 22, 3) := by decide +kernel
theorem dX11_type_30 : decode cX11_type 30 = .ok (.aload_n 0, 1) := by decide +kernel
theorem dX11_type_31 : decode cX11_type 31 = .ok (.getfield 229, 3) := by decide +kernel
theorem dX11_type_34 : decode cX11_type 34 = .ok (.iload_n 1, 1) := by decide +kernel
theorem dX11_type_35 : decode cX11_type 35 = .ok (.iastore, 1) := by decide +kernel
theorem dX11_type_36 : decode cX11_type 36 = .ok (.aload_n 0, 1) := by decide +kernel
theorem dX11_type_37 : decode cX11_type 37 = .ok (.dup, 1) := by decide +kernel
theorem dX11_type_38 : decode cX11_type 38 = .ok (.getfield 229, 3) := by decide +kernel
theorem dX11_type_41 : decode cX11_type 41 = .ok (.iconst 1, 1) := by decide +kernel
theorem dX11_type_42 : decode cX11_type 42 = .ok (.iadd, 1) := by decide +kernel
theorem dX11_type_43 : decode cX11_type 43 = .ok (.putfield 229, 3) := by decide +kernel
theorem dX11_type_46 : decode cX11_type 46 = .ok (.aload_n 0, 1) := by decide +kernel
theorem dX11_type_47 : decode cX11_type 47 = .ok (.getfield 229, 3) := by decide +kernel
theorem dX11_type_50 : decode cX11_type 50 = .ok (.ireturn, 1) := by decide +kernel
theorem dX11_clearText_0 : decode cX11_clearText 0 = .ok (.aload_n 0, 1) := by decide +kernel
theorem dX11_clearText_1 : decode cX11_clearText 1 = .ok (.getfield 229, 3) := by decide +kernel
theorem dX11_clearText_4 : decode cX11_clearText 4 = .ok (.istore_n 1, 1) := by decide +kernel
theorem dX11_clearText_5 : decode cX11_clearText 5 = .ok (.aload_n 0, 1) := by decide +kernel
theorem dX11_clearText_6 : decode cX11_clearText 6 = .ok (.iconst 0, 1) := by decide +kernel
theorem dX11_clearText_7 : decode cX11_clearText 7 = .ok (.putfield 229, 3) := by decide +kernel
theorem dX11_clearText_10 : decode cX11_clearText 10 = .ok (.iload_n 1, 1) := by decide +kernel
theorem dX11_clearText_11 : decode cX11_clearText 11 = .ok (.ireturn, 1) := by decide +kernel
theorem dX11_here_0 : decode cX11_here 0 = .ok (.aload_n 0, 1) := by decide +kernel
theorem dX11_here_1 : decode cX11_here 1 = .ok (.getfield 232, 3) := by decide +kernel
theorem dX11_here_4 : decode cX11_here 4 = .ok (.aload_n 0, 1) := by decide +kernel
theorem dX11_here_5 : decode cX11_here 5 = .ok (.getfield 229, 3) := by decide +kernel
theorem dX11_here_8 : decode cX11_here 8 = .ok (.if_icmp .ge 15, 3) := by decide +kernel
theorem dX11_here_11 : decode cX11_here 11 = .ok (.aload_n 0, 1) := by decide +kernel
theorem dX11_here_12 : decode cX11_here 12 = .ok (.getfield 22, 3) := by decide +kernel
theorem dX11_here_15 : decode cX11_here 15 = .ok (.aload_n 0, 1) := by decide +kernel
theorem dX11_here_16 : decode cX11_here 16 = .ok (.getfield 232, 3) := by decide +kernel
theorem dX11_here_19 : decode cX11_here 19 = .ok (.iaload, 1) := by decide +kernel
theorem dX11_here_20 : decode cX11_here 20 = .ok (.goto 4, 3) := by decide +kernel
theorem dX11_here_23 : decode cX11_here 23 = .ok (.iconst (-1), 1) := by decide +kernel
theorem dX11_here_24 : decode cX11_here 24 = .ok (.ireturn, 1) := by decide +kernel
theorem dX11_isDigit_0 : decode cX11_isDigit 0 = .ok (.aload_n 0, 1) := by decide +kernel
theorem dX11_isDigit_1 : decode cX11_isDigit 1 = .ok (.invokevirtual 235, 3) := by decide +kernel
theorem dX11_isDigit_4 : decode cX11_isDigit 4 = .ok (.bipush 48, 2) := by decide +kernel
theorem dX11_isDigit_6 : decode cX11_isDigit 6 = .ok (.bipush 57, 2) := by decide +kernel
theorem dX11_isDigit_8 : decode cX11_isDigit 8 = .ok (.invokestatic 44, 3) := by decide +kernel
theorem dX11_isDigit_11 : decode cX11_isDigit 11 = .ok (.ireturn, 1) := by decide +kernel
theorem dX11_takesSign_0 : decode cX11_takesSign 0 = .ok (.aload_n 0, 1) := by decide +kernel
theorem dX11_takesSign_1 : decode cX11_takesSign 1 = .ok (.aload_n 0, 1) := by decide +kernel
theorem dX11_takesSign_2 : decode cX11_takesSign 2 = .ok (.getfield 238, 3) := by decide +kernel
theorem dX11_takesSign_5 : decode cX11_takesSign 5 = .ok (.ifCond .eq 15, 3) := by decide +kernel
theorem dX11_takesSign_8 : decode cX11_takesSign 8 = .ok (.aload_n 0, 1) := by decide +kernel
theorem dX11_takesSign_9 : decode cX11_takesSign 9 = .ok (.invokevirtual 235, 3) := by decide +kernel
theorem dX11_takesSign_12 : decode cX11_takesSign 12 = .ok (.iload_n 1, 1) := by decide +kernel
theorem dX11_takesSign_13 : decode cX11_takesSign 13 = .ok (.if_icmp .ne 7, 3) := by decide +kernel
theorem dX11_takesSign_16 : decode cX11_takesSign 16 = .ok (.iconst 1, 1) := by decide +kernel
theorem dX11_takesSign_17 : decode cX11_takesSign 17 = .ok (.goto 4, 3) := by decide +kernel
theorem dX11_takesSign_20 : decode cX11_takesSign 20 = .ok (.iconst 0, 1) := by decide +kernel
theorem dX11_takesSign_21 : decode cX11_takesSign 21 = .ok (.putfield 238, 3) := by decide +kernel
theorem dX11_takesSign_24 : decode cX11_takesSign 24 = .ok (.aload_n 0, 1) := by decide +kernel
theorem dX11_takesSign_25 : decode cX11_takesSign 25 = .ok (.dup, 1) := by decide +kernel
theorem dX11_takesSign_26 : decode cX11_takesSign 26 = .ok (.getfield 232, 3) := by decide +kernel
theorem dX11_takesSign_29 : decode cX11_takesSign 29 = .ok (.aload_n 0, 1) := by decide +kernel
theorem dX11_takesSign_30 : decode cX11_takesSign 30 = .ok (.getfield 238, 3) := by decide +kernel
theorem dX11_takesSign_33 : decode cX11_takesSign 33 = .ok (.ifCond .eq 7, 3) := by decide +kernel
theorem dX11_takesSign_36 : decode cX11_takesSign 36 = .ok (.iconst 1, 1) := by decide +kernel
theorem dX11_takesSign_37 : decode cX11_takesSign 37 = .ok (.goto 4, 3) := by decide +kernel
theorem dX11_takesSign_40 : decode cX11_takesSign 40 = .ok (.iconst 0, 1) := by decide +kernel
theorem dX11_takesSign_41 : decode cX11_takesSign 41 = .ok (.iadd, 1) := by decide +kernel
theorem dX11_takesSign_42 : decode cX11_takesSign 42 = .ok (.putfield 232, 3) := by decide +kernel
theorem dX11_takesSign_45 : decode cX11_takesSign 45 = .ok (.return_, 1) := by decide +kernel
theorem dX11_number_0 : decode cX11_number 0 = .ok (.aload_n 0, 1) := by decide +kernel
theorem dX11_number_1 : decode cX11_number 1 = .ok (.aload_n 0, 1) := by decide +kernel
theorem dX11_number_2 : decode cX11_number 2 = .ok (.getfield 238, 3) := by decide +kernel
theorem dX11_number_5 : decode cX11_number 5 = .ok (.ifCond .eq 14, 3) := by decide +kernel
theorem dX11_number_8 : decode cX11_number 8 = .ok (.aload_n 0, 1) := by decide +kernel
theorem dX11_number_9 : decode cX11_number 9 = .ok (.invokevirtual 242, 3) := by decide +kernel
theorem dX11_number_12 : decode cX11_number 12 = .ok (.ifCond .eq 7, 3) := by decide +kernel
theorem dX11_number_15 : decode cX11_number 15 = .ok (.iconst 1, 1) := by decide +kernel
theorem dX11_number_16 : decode cX11_number 16 = .ok (.goto 4, 3) := by decide +kernel
theorem dX11_number_19 : decode cX11_number 19 = .ok (.iconst 0, 1) := by decide +kernel
theorem dX11_number_20 : decode cX11_number 20 = .ok (.putfield 238, 3) := by decide +kernel
theorem dX11_number_23 : decode cX11_number 23 = .ok (.iconst 0, 1) := by decide +kernel
theorem dX11_number_24 : decode cX11_number 24 = .ok (.istore_n 1, 1) := by decide +kernel
theorem dX11_number_25 : decode cX11_number 25 = .ok (.iconst 0, 1) := by decide +kernel
theorem dX11_number_26 : decode cX11_number 26 = .ok (.istore_n 2, 1) := by decide +kernel
theorem dX11_number_27 : decode cX11_number 27 = .ok (.iload_n 2, 1) := by decide +kernel
theorem dX11_number_28 : decode cX11_number 28 = .ok (.iconst 3, 1) := by decide +kernel
theorem dX11_number_29 : decode cX11_number 29 = .ok (.if_icmp .ge 46, 3) := by decide +kernel
theorem dX11_number_32 : decode cX11_number 32 = .ok (.aload_n 0, 1) := by decide +kernel
theorem dX11_number_33 : decode cX11_number 33 = .ok (.getfield 238, 3) := by decide +kernel
theorem dX11_number_36 : decode cX11_number 36 = .ok (.ifCond .eq 39, 3) := by decide +kernel
theorem dX11_number_39 : decode cX11_number 39 = .ok (.aload_n 0, 1) := by decide +kernel
theorem dX11_number_40 : decode cX11_number 40 = .ok (.invokevirtual 242, 3) := by decide +kernel
theorem dX11_number_43 : decode cX11_number 43 = .ok (.ifCond .eq 32, 3) := by decide +kernel
theorem dX11_number_46 : decode cX11_number 46 = .ok (.bipush 10, 2) := by decide +kernel
theorem dX11_number_48 : decode cX11_number 48 = .ok (.iload_n 1, 1) := by decide +kernel
theorem dX11_number_49 : decode cX11_number 49 = .ok (.imul, 1) := by decide +kernel
theorem dX11_number_50 : decode cX11_number 50 = .ok (.aload_n 0, 1) := by decide +kernel
theorem dX11_number_51 : decode cX11_number 51 = .ok (.invokevirtual 235, 3) := by decide +kernel
theorem dX11_number_54 : decode cX11_number 54 = .ok (.iadd, 1) := by decide +kernel
theorem dX11_number_55 : decode cX11_number 55 = .ok (.bipush 48, 2) := by decide +kernel
theorem dX11_number_57 : decode cX11_number 57 = .ok (.isub, 1) := by decide +kernel
theorem dX11_number_58 : decode cX11_number 58 = .ok (.istore_n 1, 1) := by decide +kernel
theorem dX11_number_59 : decode cX11_number 59 = .ok (.aload_n 0, 1) := by decide +kernel
theorem dX11_number_60 : decode cX11_number 60 = .ok (.dup, 1) := by decide +kernel
theorem dX11_number_61 : decode cX11_number 61 = .ok (.getfield 232, 3) := by decide +kernel
theorem dX11_number_64 : decode cX11_number 64 = .ok (.iconst 1, 1) := by decide +kernel
theorem dX11_number_65 : decode cX11_number 65 = .ok (.iadd, 1) := by decide +kernel
theorem dX11_number_66 : decode cX11_number 66 = .ok (.putfield 232, 3) := by decide +kernel
theorem dX11_number_69 : decode cX11_number 69 = .ok (.iinc 2 1, 3) := by decide +kernel
theorem dX11_number_72 : decode cX11_number 72 = .ok (.goto (-45), 3) := by decide +kernel
theorem dX11_number_75 : decode cX11_number 75 = .ok (.iload_n 1, 1) := by decide +kernel
theorem dX11_number_76 : decode cX11_number 76 = .ok (.ireturn, 1) := by decide +kernel
theorem dX11_wantsOf_0 : decode cX11_wantsOf 0 = .ok (.iload_n 0, 1) := by decide +kernel
theorem dX11_wantsOf_1 : decode cX11_wantsOf 1 = .ok (.lookupswitch 47 #[(99, 45), (107, 45), (112, 43), (119, 45)], 43) := by decide +kernel
theorem dX11_wantsOf_44 : decode cX11_wantsOf 44 = .ok (.iconst 4, 1) := by decide +kernel
theorem dX11_wantsOf_45 : decode cX11_wantsOf 45 = .ok (.ireturn, 1) := by decide +kernel
theorem dX11_wantsOf_46 : decode cX11_wantsOf 46 = .ok (.iconst 2, 1) := by decide +kernel
theorem dX11_wantsOf_47 : decode cX11_wantsOf 47 = .ok (.ireturn, 1) := by decide +kernel
theorem dX11_wantsOf_48 : decode cX11_wantsOf 48 = .ok (.iload_n 0, 1) := by decide +kernel
theorem dX11_wantsOf_49 : decode cX11_wantsOf 49 = .ok (.bipush 114, 2) := by decide +kernel
theorem dX11_wantsOf_51 : decode cX11_wantsOf 51 = .ok (.if_icmp .ne 7, 3) := by decide +kernel
theorem dX11_wantsOf_54 : decode cX11_wantsOf 54 = .ok (.iconst 0, 1) := by decide +kernel
theorem dX11_wantsOf_55 : decode cX11_wantsOf 55 = .ok (.goto 4, 3) := by decide +kernel
theorem dX11_wantsOf_58 : decode cX11_wantsOf 58 = .ok (.iconst (-1), 1) := by decide +kernel
theorem dX11_wantsOf_59 : decode cX11_wantsOf 59 = .ok (.ireturn, 1) := by decide +kernel
theorem dX11_called_0 : decode cX11_called 0 = .ok (.iload_n 1, 1) := by decide +kernel
theorem dX11_called_1 : decode cX11_called 1 = .ok (.lookupswitch 123 #[(99, 106), (107, 72), (112, 43), (119, 89)], 43) := by decide +kernel
theorem dX11_called_44 : decode cX11_called 44 = .ok (.aload_n 0, 1) := by decide +kernel
theorem dX11_called_45 : decode cX11_called 45 = .ok (.aload_n 0, 1) := by decide +kernel
theorem dX11_called_46 : decode cX11_called 46 = .ok (.getfield 41, 3) := by decide +kernel
theorem dX11_called_49 : decode cX11_called 49 = .ok (.iconst 0, 1) := by decide +kernel
theorem dX11_called_50 : decode cX11_called 50 = .ok (.iaload, 1) := by decide +kernel
theorem dX11_called_51 : decode cX11_called 51 = .ok (.aload_n 0, 1) := by decide +kernel
theorem dX11_called_52 : decode cX11_called 52 = .ok (.getfield 41, 3) := by decide +kernel
theorem dX11_called_55 : decode cX11_called 55 = .ok (.iconst 1, 1) := by decide +kernel
theorem dX11_called_56 : decode cX11_called 56 = .ok (.iaload, 1) := by decide +kernel
theorem dX11_called_57 : decode cX11_called 57 = .ok (.aload_n 0, 1) := by decide +kernel
theorem dX11_called_58 : decode cX11_called 58 = .ok (.getfield 41, 3) := by decide +kernel
theorem dX11_called_61 : decode cX11_called 61 = .ok (.iconst 2, 1) := by decide +kernel
theorem dX11_called_62 : decode cX11_called 62 = .ok (.iaload, 1) := by decide +kernel
theorem dX11_called_63 : decode cX11_called 63 = .ok (.aload_n 0, 1) := by decide +kernel
theorem dX11_called_64 : decode cX11_called 64 = .ok (.getfield 41, 3) := by decide +kernel
theorem dX11_called_67 : decode cX11_called 67 = .ok (.iconst 3, 1) := by decide +kernel
theorem dX11_called_68 : decode cX11_called 68 = .ok (.iaload, 1) := by decide +kernel
theorem dX11_called_69 : decode cX11_called 69 = .ok (.invokevirtual 188, 3) := by decide +kernel
theorem dX11_called_72 : decode cX11_called 72 = .ok (.ireturn, 1) := by decide +kernel
theorem dX11_called_73 : decode cX11_called 73 = .ok (.aload_n 0, 1) := by decide +kernel
theorem dX11_called_74 : decode cX11_called 74 = .ok (.aload_n 0, 1) := by decide +kernel
theorem dX11_called_75 : decode cX11_called 75 = .ok (.getfield 41, 3) := by decide +kernel
theorem dX11_called_78 : decode cX11_called 78 = .ok (.iconst 0, 1) := by decide +kernel
theorem dX11_called_79 : decode cX11_called 79 = .ok (.iaload, 1) := by decide +kernel
theorem dX11_called_80 : decode cX11_called 80 = .ok (.aload_n 0, 1) := by decide +kernel
theorem dX11_called_81 : decode cX11_called 81 = .ok (.getfield 41, 3) := by decide +kernel
theorem dX11_called_84 : decode cX11_called 84 = .ok (.iconst 1, 1) := by decide +kernel
theorem dX11_called_85 : decode cX11_called 85 = .ok (.iaload, 1) := by decide +kernel
theorem dX11_called_86 : decode cX11_called 86 = .ok (.invokevirtual 176, 3) := by decide +kernel
theorem dX11_called_89 : decode cX11_called 89 = .ok (.ireturn, 1) := by decide +kernel
theorem dX11_called_90 : decode cX11_called 90 = .ok (.aload_n 0, 1) := by decide +kernel
theorem dX11_called_91 : decode cX11_called 91 = .ok (.aload_n 0, 1) := by decide +kernel
theorem dX11_called_92 : decode cX11_called 92 = .ok (.getfield 41, 3) := by decide +kernel
theorem dX11_called_95 : decode cX11_called 95 = .ok (.iconst 0, 1) := by decide +kernel
theorem dX11_called_96 : decode cX11_called 96 = .ok (.iaload, 1) := by decide +kernel
theorem dX11_called_97 : decode cX11_called 97 = .ok (.aload_n 0, 1) := by decide +kernel
theorem dX11_called_98 : decode cX11_called 98 = .ok (.getfield 41, 3) := by decide +kernel
theorem dX11_called_101 : decode cX11_called 101 = .ok (.iconst 1, 1) := by decide +kernel
theorem dX11_called_102 : decode cX11_called 102 = .ok (.iaload, 1) := by decide +kernel
theorem dX11_called_103 : decode cX11_called 103 = .ok (.invokevirtual 182, 3) := by decide +kernel
theorem dX11_called_106 : decode cX11_called 106 = .ok (.ireturn, 1) := by decide +kernel
theorem dX11_called_107 : decode cX11_called 107 = .ok (.aload_n 0, 1) := by decide +kernel
theorem dX11_called_108 : decode cX11_called 108 = .ok (.aload_n 0, 1) := by decide +kernel
theorem dX11_called_109 : decode cX11_called 109 = .ok (.getfield 41, 3) := by decide +kernel
theorem dX11_called_112 : decode cX11_called 112 = .ok (.iconst 0, 1) := by decide +kernel
theorem dX11_called_113 : decode cX11_called 113 = .ok (.iaload, 1) := by decide +kernel
theorem dX11_called_114 : decode cX11_called 114 = .ok (.aload_n 0, 1) := by decide +kernel
theorem dX11_called_115 : decode cX11_called 115 = .ok (.getfield 41, 3) := by decide +kernel
theorem dX11_called_118 : decode cX11_called 118 = .ok (.iconst 1, 1) := by decide +kernel
theorem dX11_called_119 : decode cX11_called 119 = .ok (.iaload, 1) := by decide +kernel
theorem dX11_called_120 : decode cX11_called 120 = .ok (.invokevirtual 185, 3) := by decide +kernel
theorem dX11_called_123 : decode cX11_called 123 = .ok (.ireturn, 1) := by decide +kernel
theorem dX11_called_124 : decode cX11_called 124 = .ok (.aload_n 0, 1) := by decide +kernel
theorem dX11_called_125 : decode cX11_called 125 = .ok (.invokevirtual 192, 3) := by decide +kernel
theorem dX11_called_128 : decode cX11_called 128 = .ok (.ireturn, 1) := by decide +kernel
theorem dX11_doesAll_0 : decode cX11_doesAll 0 = .ok (.aload_n 0, 1) := by decide +kernel
theorem dX11_doesAll_1 : decode cX11_doesAll 1 = .ok (.iconst 0, 1) := by decide +kernel
theorem dX11_doesAll_2 : decode cX11_doesAll 2 = .ok (.putfield 232, 3) := by decide +kernel
theorem dX11_doesAll_5 : decode cX11_doesAll 5 = .ok (.aload_n 0, 1) := by decide +kernel
theorem dX11_doesAll_6 : decode cX11_doesAll 6 = .ok (.iconst 0, 1) := by decide +kernel
theorem dX11_doesAll_7 : decode cX11_doesAll 7 = .ok (.putfield 246, 3) := by decide +kernel
theorem dX11_doesAll_10 : decode cX11_doesAll 10 = .ok (.aload_n 0, 1) := by decide +kernel
theorem dX11_doesAll_11 : decode cX11_doesAll 11 = .ok (.getfield 232, 3) := by decide +kernel
theorem dX11_doesAll_14 : decode cX11_doesAll 14 = .ok (.aload_n 0, 1) := by decide +kernel
theorem dX11_doesAll_15 : decode cX11_doesAll 15 = .ok (.getfield 229, 3) := by decide +kernel
theorem dX11_doesAll_18 : decode cX11_doesAll 18 = .ok (.if_icmp .ge 146, 3) := by decide +kernel
theorem dX11_doesAll_21 : decode cX11_doesAll 21 = .ok (.aload_n 0, 1) := by decide +kernel
theorem dX11_doesAll_22 : decode cX11_doesAll 22 = .ok (.aload_n 0, 1) := by decide +kernel
theorem dX11_doesAll_23 : decode cX11_doesAll 23 = .ok (.getfield 232, 3) := by decide +kernel
theorem dX11_doesAll_26 : decode cX11_doesAll 26 = .ok (.putfield 249, 3) := by decide +kernel
theorem dX11_doesAll_29 : decode cX11_doesAll 29 = .ok (.aload_n 0, 1) := by decide +kernel
theorem dX11_doesAll_30 : decode cX11_doesAll 30 = .ok (.invokevirtual 235, 3) := by decide +kernel
theorem dX11_doesAll_33 : decode cX11_doesAll 33 = .ok (.istore_n 1, 1) := by decide +kernel
theorem dX11_doesAll_34 : decode cX11_doesAll 34 = .ok (.aload_n 0, 1) := by decide +kernel
theorem dX11_doesAll_35 : decode cX11_doesAll 35 = .ok (.iload_n 1, 1) := by decide +kernel
theorem dX11_doesAll_36 : decode cX11_doesAll 36 = .ok (.invokestatic 252, 3) := by decide +kernel
theorem dX11_doesAll_39 : decode cX11_doesAll 39 = .ok (.ifCond .lt 7, 3) := by decide +kernel
theorem dX11_doesAll_42 : decode cX11_doesAll 42 = .ok (.iconst 1, 1) := by decide +kernel
theorem dX11_doesAll_43 : decode cX11_doesAll 43 = .ok (.goto 4, 3) := by decide +kernel
theorem dX11_doesAll_46 : decode cX11_doesAll 46 = .ok (.iconst 0, 1) := by decide +kernel
theorem dX11_doesAll_47 : decode cX11_doesAll 47 = .ok (.putfield 238, 3) := by decide +kernel
theorem dX11_doesAll_50 : decode cX11_doesAll 50 = .ok (.aload_n 0, 1) := by decide +kernel
theorem dX11_doesAll_51 : decode cX11_doesAll 51 = .ok (.dup, 1) := by decide +kernel
theorem dX11_doesAll_52 : decode cX11_doesAll 52 = .ok (.getfield 232, 3) := by decide +kernel
theorem dX11_doesAll_55 : decode cX11_doesAll 55 = .ok (.aload_n 0, 1) := by decide +kernel
theorem dX11_doesAll_56 : decode cX11_doesAll 56 = .ok (.getfield 238, 3) := by decide +kernel
theorem dX11_doesAll_59 : decode cX11_doesAll 59 = .ok (.ifCond .eq 7, 3) := by decide +kernel
theorem dX11_doesAll_62 : decode cX11_doesAll 62 = .ok (.iconst 1, 1) := by decide +kernel
theorem dX11_doesAll_63 : decode cX11_doesAll 63 = .ok (.goto 4, 3) := by decide +kernel
theorem dX11_doesAll_66 : decode cX11_doesAll 66 = .ok (.iconst 0, 1) := by decide +kernel
theorem dX11_doesAll_67 : decode cX11_doesAll 67 = .ok (.iadd, 1) := by decide +kernel
theorem dX11_doesAll_68 : decode cX11_doesAll 68 = .ok (.putfield 232, 3) := by decide +kernel
theorem dX11_doesAll_71 : decode cX11_doesAll 71 = .ok (.iconst 0, 1) := by decide +kernel
theorem dX11_doesAll_72 : decode cX11_doesAll 72 = .ok (.istore_n 2, 1) := by decide +kernel
theorem dX11_doesAll_73 : decode cX11_doesAll 73 = .ok (.iload_n 2, 1) := by decide +kernel
theorem dX11_doesAll_74 : decode cX11_doesAll 74 = .ok (.iload_n 1, 1) := by decide +kernel
theorem dX11_doesAll_75 : decode cX11_doesAll 75 = .ok (.invokestatic 252, 3) := by decide +kernel
theorem dX11_doesAll_78 : decode cX11_doesAll 78 = .ok (.if_icmp .ge 29, 3) := by decide +kernel
theorem dX11_doesAll_81 : decode cX11_doesAll 81 = .ok (.iload_n 2, 1) := by decide +kernel
theorem dX11_doesAll_82 : decode cX11_doesAll 82 = .ok (.ifCond .le 9, 3) := by decide +kernel
theorem dX11_doesAll_85 : decode cX11_doesAll 85 = .ok (.aload_n 0, 1) := by decide +kernel
theorem dX11_doesAll_86 : decode cX11_doesAll 86 = .ok (.bipush 44, 2) := by decide +kernel
theorem dX11_doesAll_88 : decode cX11_doesAll 88 = .ok (.invokevirtual 255, 3) := by decide +kernel
theorem dX11_doesAll_91 : decode cX11_doesAll 91 = .ok (.aload_n 0, 1) := by decide +kernel
theorem dX11_doesAll_92 : decode cX11_doesAll 92 = .ok (.getfield 41, 3) := by decide +kernel
theorem dX11_doesAll_95 : decode cX11_doesAll 95 = .ok (.iload_n 2, 1) := by decide +kernel
theorem dX11_doesAll_96 : decode cX11_doesAll 96 = .ok (.aload_n 0, 1) := by decide +kernel
theorem dX11_doesAll_97 : decode cX11_doesAll 97 = .ok (.invokevirtual 258, 3) := by decide +kernel
theorem dX11_doesAll_100 : decode cX11_doesAll 100 = .ok (.iastore, 1) := by decide +kernel
theorem dX11_doesAll_101 : decode cX11_doesAll 101 = .ok (.iinc 2 1, 3) := by decide +kernel
theorem dX11_doesAll_104 : decode cX11_doesAll 104 = .ok (.goto (-31), 3) := by decide +kernel
theorem dX11_doesAll_107 : decode cX11_doesAll 107 = .ok (.aload_n 0, 1) := by decide +kernel
theorem dX11_doesAll_108 : decode cX11_doesAll 108 = .ok (.bipush 59, 2) := by decide +kernel
theorem dX11_doesAll_110 : decode cX11_doesAll 110 = .ok (.invokevirtual 255, 3) := by decide +kernel
theorem dX11_doesAll_113 : decode cX11_doesAll 113 = .ok (.aload_n 0, 1) := by decide +kernel
theorem dX11_doesAll_114 : decode cX11_doesAll 114 = .ok (.aload_n 0, 1) := by decide +kernel
theorem dX11_doesAll_115 : decode cX11_doesAll 115 = .ok (.getfield 238, 3) := by decide +kernel
theorem dX11_doesAll_118 : decode cX11_doesAll 118 = .ok (.ifCond .eq 11, 3) := by decide +kernel
theorem dX11_doesAll_121 : decode cX11_doesAll 121 = .ok (.aload_n 0, 1) := by decide +kernel
theorem dX11_doesAll_122 : decode cX11_doesAll 122 = .ok (.iload_n 1, 1) := by decide +kernel
theorem dX11_doesAll_123 : decode cX11_doesAll 123 = .ok (.invokevirtual 261, 3) := by decide +kernel
theorem dX11_doesAll_126 : decode cX11_doesAll 126 = .ok (.goto 4, 3) := by decide +kernel
theorem dX11_doesAll_129 : decode cX11_doesAll 129 = .ok (.iconst 0, 1) := by decide +kernel
theorem dX11_doesAll_130 : decode cX11_doesAll 130 = .ok (.putfield 264, 3) := by decide +kernel
theorem dX11_doesAll_133 : decode cX11_doesAll 133 = .ok (.aload_n 0, 1) := by decide +kernel
theorem dX11_doesAll_134 : decode cX11_doesAll 134 = .ok (.getfield 238, 3) := by decide +kernel
theorem dX11_doesAll_137 : decode cX11_doesAll 137 = .ok (.ifCond .eq 12, 3) := by decide +kernel
theorem dX11_doesAll_140 : decode cX11_doesAll 140 = .ok (.aload_n 0, 1) := by decide +kernel
theorem dX11_doesAll_141 : decode cX11_doesAll 141 = .ok (.getfield 264, 3) := by decide +kernel
theorem dX11_doesAll_144 : decode cX11_doesAll 144 = .ok (.ldc 48, 2) := by decide +kernel
theorem dX11_doesAll_146 : decode cX11_doesAll 146 = .ok (.if_icmp .gt 5, 3) := by decide +kernel
theorem dX11_doesAll_149 : decode cX11_doesAll 149 = .ok (.iconst 0, 1) := by decide +kernel
theorem dX11_doesAll_150 : decode cX11_doesAll 150 = .ok (.ireturn, 1) := by decide +kernel
theorem dX11_doesAll_151 : decode cX11_doesAll 151 = .ok (.aload_n 0, 1) := by decide +kernel
theorem dX11_doesAll_152 : decode cX11_doesAll 152 = .ok (.dup, 1) := by decide +kernel
theorem dX11_doesAll_153 : decode cX11_doesAll 153 = .ok (.getfield 246, 3) := by decide +kernel
theorem dX11_doesAll_156 : decode cX11_doesAll 156 = .ok (.iconst 1, 1) := by decide +kernel
theorem dX11_doesAll_157 : decode cX11_doesAll 157 = .ok (.iadd, 1) := by decide +kernel
theorem dX11_doesAll_158 : decode cX11_doesAll 158 = .ok (.putfield 246, 3) := by decide +kernel
theorem dX11_doesAll_161 : decode cX11_doesAll 161 = .ok (.goto (-151), 3) := by decide +kernel
theorem dX11_doesAll_164 : decode cX11_doesAll 164 = .ok (.iconst 1, 1) := by decide +kernel
theorem dX11_doesAll_165 : decode cX11_doesAll 165 = .ok (.ireturn, 1) := by decide +kernel
theorem dX11_fault_0 : decode cX11_fault 0 = .ok (.iload_n 1, 1) := by decide +kernel
theorem dX11_fault_1 : decode cX11_fault 1 = .ok (.iconst 0, 1) := by decide +kernel
theorem dX11_fault_2 : decode cX11_fault 2 = .ok (.iconst 2, 1) := by decide +kernel
theorem dX11_fault_3 : decode cX11_fault 3 = .ok (.invokestatic 44, 3) := by decide +kernel
theorem dX11_fault_6 : decode cX11_fault 6 = .ok (.ifCond .ne 6, 3) := by decide +kernel
theorem dX11_fault_9 : decode cX11_fault 9 = .ok (.ldc 48, 2) := by decide +kernel
theorem dX11_fault_11 : decode cX11_fault 11 = .ok (.ireturn, 1) := by decide +kernel
theorem dX11_fault_12 : decode cX11_fault 12 = .ok (.aload_n 0, 1) := by decide +kernel
theorem dX11_fault_13 : decode cX11_fault 13 = .ok (.invokevirtual 173, 3) := by decide +kernel
theorem dX11_fault_16 : decode cX11_fault 16 = .ok (.aload_n 0, 1) := by decide +kernel
theorem dX11_fault_17 : decode cX11_fault 17 = .ok (.invokevirtual 267, 3) := by decide +kernel
theorem dX11_fault_20 : decode cX11_fault 20 = .ok (.istore_n 2, 1) := by decide +kernel
theorem dX11_fault_21 : decode cX11_fault 21 = .ok (.aload_n 0, 1) := by decide +kernel
theorem dX11_fault_22 : decode cX11_fault 22 = .ok (.invokevirtual 49, 3) := by decide +kernel
theorem dX11_fault_25 : decode cX11_fault 25 = .ok (.iload_n 2, 1) := by decide +kernel
theorem dX11_fault_26 : decode cX11_fault 26 = .ok (.ifCond .eq 6, 3) := by decide +kernel
theorem dX11_fault_29 : decode cX11_fault 29 = .ok (.ldc 195, 2) := by decide +kernel
theorem dX11_fault_31 : decode cX11_fault 31 = .ok (.ireturn, 1) := by decide +kernel
theorem dX11_fault_32 : decode cX11_fault 32 = .ok (.iload_n 1, 1) := by decide +kernel
theorem dX11_fault_33 : decode cX11_fault 33 = .ok (.ifCond .ne 10, 3) := by decide +kernel
theorem dX11_fault_36 : decode cX11_fault 36 = .ok (.aload_n 0, 1) := by decide +kernel
theorem dX11_fault_37 : decode cX11_fault 37 = .ok (.getfield 249, 3) := by decide +kernel
theorem dX11_fault_40 : decode cX11_fault 40 = .ok (.goto 46, 3) := by decide +kernel
theorem dX11_fault_43 : decode cX11_fault 43 = .ok (.iload_n 1, 1) := by decide +kernel
theorem dX11_fault_44 : decode cX11_fault 44 = .ok (.iconst 1, 1) := by decide +kernel
theorem dX11_fault_45 : decode cX11_fault 45 = .ok (.if_icmp .ne 18, 3) := by decide +kernel
theorem dX11_fault_48 : decode cX11_fault 48 = .ok (.aload_n 0, 1) := by decide +kernel
theorem dX11_fault_49 : decode cX11_fault 49 = .ok (.getfield 238, 3) := by decide +kernel
theorem dX11_fault_52 : decode cX11_fault 52 = .ok (.ifCond .eq 7, 3) := by decide +kernel
theorem dX11_fault_55 : decode cX11_fault 55 = .ok (.iconst 2, 1) := by decide +kernel
theorem dX11_fault_56 : decode cX11_fault 56 = .ok (.goto 30, 3) := by decide +kernel
theorem dX11_fault_59 : decode cX11_fault 59 = .ok (.iconst 1, 1) := by decide +kernel
theorem dX11_fault_60 : decode cX11_fault 60 = .ok (.goto 26, 3) := by decide +kernel
theorem dX11_fault_63 : decode cX11_fault 63 = .ok (.aload_n 0, 1) := by decide +kernel
theorem dX11_fault_64 : decode cX11_fault 64 = .ok (.getfield 238, 3) := by decide +kernel
theorem dX11_fault_67 : decode cX11_fault 67 = .ok (.ifCond .eq 10, 3) := by decide +kernel
theorem dX11_fault_70 : decode cX11_fault 70 = .ok (.aload_n 0, 1) := by decide +kernel
theorem dX11_fault_71 : decode cX11_fault 71 = .ok (.getfield 264, 3) := by decide +kernel
theorem dX11_fault_74 : decode cX11_fault 74 = .ok (.goto 12, 3) := by decide +kernel
theorem dX11_fault_77 : decode cX11_fault 77 = .ok (.aload_n 0, 1) := by decide +kernel
theorem dX11_fault_78 : decode cX11_fault 78 = .ok (.getfield 232, 3) := by decide +kernel
theorem dX11_fault_81 : decode cX11_fault 81 = .ok (.aload_n 0, 1) := by decide +kernel
theorem dX11_fault_82 : decode cX11_fault 82 = .ok (.getfield 249, 3) := by decide +kernel
theorem dX11_fault_85 : decode cX11_fault 85 = .ok (.isub, 1) := by decide +kernel
theorem dX11_fault_86 : decode cX11_fault 86 = .ok (.ireturn, 1) := by decide +kernel
theorem dX11_play_0 : decode cX11_play 0 = .ok (.aload_n 0, 1) := by decide +kernel
theorem dX11_play_1 : decode cX11_play 1 = .ok (.invokevirtual 173, 3) := by decide +kernel
theorem dX11_play_4 : decode cX11_play 4 = .ok (.aload_n 0, 1) := by decide +kernel
theorem dX11_play_5 : decode cX11_play 5 = .ok (.aload_n 0, 1) := by decide +kernel
theorem dX11_play_6 : decode cX11_play 6 = .ok (.invokevirtual 267, 3) := by decide +kernel
theorem dX11_play_9 : decode cX11_play 9 = .ok (.ifCond .eq 10, 3) := by decide +kernel
theorem dX11_play_12 : decode cX11_play 12 = .ok (.aload_n 0, 1) := by decide +kernel
theorem dX11_play_13 : decode cX11_play 13 = .ok (.getfield 246, 3) := by decide +kernel
theorem dX11_play_16 : decode cX11_play 16 = .ok (.goto 5, 3) := by decide +kernel
theorem dX11_play_19 : decode cX11_play 19 = .ok (.ldc 159, 2) := by decide +kernel
theorem dX11_play_21 : decode cX11_play 21 = .ok (.invokevirtual 179, 3) := by decide +kernel
theorem dX11_play_24 : decode cX11_play 24 = .ok (.ireturn, 1) := by decide +kernel
