theorem dL_lot_0 : decode cL_lot 0 = .ok (.iload_n 1, 1) := by decide +kernel
theorem dL_lot_1 : decode cL_lot 1 = .ok (.aload_n 0, 1) := by decide +kernel
theorem dL_lot_2 : decode cL_lot 2 = .ok (.arraylength, 1) := by decide +kernel
theorem dL_lot_3 : decode cL_lot 3 = .ok (.if_icmp .ge 9, 3) := by decide +kernel
theorem dL_lot_6 : decode cL_lot 6 = .ok (.aload_n 0, 1) := by decide +kernel
theorem dL_lot_7 : decode cL_lot 7 = .ok (.iload_n 1, 1) := by decide +kernel
theorem dL_lot_8 : decode cL_lot 8 = .ok (.iaload, 1) := by decide +kernel
theorem dL_lot_9 : decode cL_lot 9 = .ok (.goto 15, 3) := by decide +kernel
theorem dL_lot_12 : decode cL_lot 12 = .ok (.ldc 7, 2) := by decide +kernel
theorem dL_lot_14 : decode cL_lot 14 = .ok (.iload_n 1, 1) := by decide +kernel
theorem dL_lot_15 : decode cL_lot 15 = .ok (.sipush 3187, 3) := by decide +kernel
theorem dL_lot_18 : decode cL_lot 18 = .ok (.iadd, 1) := by decide +kernel
theorem dL_lot_19 : decode cL_lot 19 = .ok (.imul, 1) := by decide +kernel
theorem dL_lot_20 : decode cL_lot 20 = .ok (.sipush 2927, 3) := by decide +kernel
theorem dL_lot_23 : decode cL_lot 23 = .ok (.iadd, 1) := by decide +kernel
theorem dL_lot_24 : decode cL_lot 24 = .ok (.ireturn, 1) := by decide +kernel
theorem dL_low_0 : decode cL_low 0 = .ok (.iload_n 0, 1) := by decide +kernel
theorem dL_low_1 : decode cL_low 1 = .ok (.ldc 8, 2) := by decide +kernel
theorem dL_low_3 : decode cL_low 3 = .ok (.iand, 1) := by decide +kernel
theorem dL_low_4 : decode cL_low 4 = .ok (.iload_n 1, 1) := by decide +kernel
theorem dL_low_5 : decode cL_low 5 = .ok (.irem, 1) := by decide +kernel
theorem dL_low_6 : decode cL_low 6 = .ok (.ireturn, 1) := by decide +kernel
theorem dL_digest_0 : decode cL_digest 0 = .ok (.ldc2_w 9, 3) := by decide +kernel
theorem dL_digest_3 : decode cL_digest 3 = .ok (.lstore_n 1, 1) := by decide +kernel
theorem dL_digest_4 : decode cL_digest 4 = .ok (.iconst 0, 1) := by decide +kernel
theorem dL_digest_5 : decode cL_digest 5 = .ok (.istore_n 3, 1) := by decide +kernel
theorem dL_digest_6 : decode cL_digest 6 = .ok (.iload_n 3, 1) := by decide +kernel
theorem dL_digest_7 : decode cL_digest 7 = .ok (.bipush 10, 2) := by decide +kernel
theorem dL_digest_9 : decode cL_digest 9 = .ok (.if_icmp .ge 38, 3) := by decide +kernel
theorem dL_digest_12 : decode cL_digest 12 = .ok (.ldc2_w 11, 3) := by decide +kernel
theorem dL_digest_15 : decode cL_digest 15 = .ok (.lload_n 1, 1) := by decide +kernel
theorem dL_digest_16 : decode cL_digest 16 = .ok (.lmul, 1) := by decide +kernel
theorem dL_digest_17 : decode cL_digest 17 = .ok (.iload_n 3, 1) := by decide +kernel
theorem dL_digest_18 : decode cL_digest 18 = .ok (.bipush 7, 2) := by decide +kernel
theorem dL_digest_20 : decode cL_digest 20 = .ok (.if_icmp .eq 9, 3) := by decide +kernel
theorem dL_digest_23 : decode cL_digest 23 = .ok (.iload_n 3, 1) := by decide +kernel
theorem dL_digest_24 : decode cL_digest 24 = .ok (.bipush 8, 2) := by decide +kernel
theorem dL_digest_26 : decode cL_digest 26 = .ok (.if_icmp .ne 7, 3) := by decide +kernel
theorem dL_digest_29 : decode cL_digest 29 = .ok (.iconst 0, 1) := by decide +kernel
theorem dL_digest_30 : decode cL_digest 30 = .ok (.goto 8, 3) := by decide +kernel
theorem dL_digest_33 : decode cL_digest 33 = .ok (.aload_n 0, 1) := by decide +kernel
theorem dL_digest_34 : decode cL_digest 34 = .ok (.iload_n 3, 1) := by decide +kernel
theorem dL_digest_35 : decode cL_digest 35 = .ok (.invokevirtual 13, 3) := by decide +kernel
theorem dL_digest_38 : decode cL_digest 38 = .ok (.i2l, 1) := by decide +kernel
theorem dL_digest_39 : decode cL_digest 39 = .ok (.ladd, 1) := by decide +kernel
theorem dL_digest_40 : decode cL_digest 40 = .ok (.lstore_n 1, 1) := by decide +kernel
theorem dL_digest_41 : decode cL_digest 41 = .ok (.iinc 3 1, 3) := by decide +kernel
theorem dL_digest_44 : decode cL_digest 44 = .ok (.goto (-38), 3) := by decide +kernel
theorem dL_digest_47 : decode cL_digest 47 = .ok (.iconst 0, 1) := by decide +kernel
theorem dL_digest_48 : decode cL_digest 48 = .ok (.istore_n 3, 1) := by decide +kernel
theorem dL_digest_49 : decode cL_digest 49 = .ok (.iload_n 3, 1) := by decide +kernel
theorem dL_digest_50 : decode cL_digest 50 = .ok (.sipush 256, 3) := by decide +kernel
theorem dL_digest_53 : decode cL_digest 53 = .ok (.if_icmp .ge 27, 3) := by decide +kernel
theorem dL_digest_56 : decode cL_digest 56 = .ok (.ldc2_w 11, 3) := by decide +kernel
theorem dL_digest_59 : decode cL_digest 59 = .ok (.lload_n 1, 1) := by decide +kernel
theorem dL_digest_60 : decode cL_digest 60 = .ok (.lmul, 1) := by decide +kernel
theorem dL_digest_61 : decode cL_digest 61 = .ok (.aload_n 0, 1) := by decide +kernel
theorem dL_digest_62 : decode cL_digest 62 = .ok (.iload_n 3, 1) := by decide +kernel
theorem dL_digest_63 : decode cL_digest 63 = .ok (.iconst 4, 1) := by decide +kernel
theorem dL_digest_64 : decode cL_digest 64 = .ok (.idiv, 1) := by decide +kernel
theorem dL_digest_65 : decode cL_digest 65 = .ok (.iload_n 3, 1) := by decide +kernel
theorem dL_digest_66 : decode cL_digest 66 = .ok (.iconst 4, 1) := by decide +kernel
theorem dL_digest_67 : decode cL_digest 67 = .ok (.irem, 1) := by decide +kernel
theorem dL_digest_68 : decode cL_digest 68 = .ok (.invokevirtual 19, 3) := by decide +kernel
theorem dL_digest_71 : decode cL_digest 71 = .ok (.i2l, 1) := by decide +kernel
theorem dL_digest_72 : decode cL_digest 72 = .ok (.ladd, 1) := by decide +kernel
theorem dL_digest_73 : decode cL_digest 73 = .ok (.lstore_n 1, 1) := by decide +kernel
theorem dL_digest_74 : decode cL_digest 74 = .ok (.iinc 3 1, 3) := by decide +kernel
theorem dL_digest_77 : decode cL_digest 77 = .ok (.goto (-28), 3) := by decide +kernel
theorem dL_digest_80 : decode cL_digest 80 = .ok (.iconst 0, 1) := by decide +kernel
theorem dL_digest_81 : decode cL_digest 81 = .ok (.istore_n 3, 1) := by decide +kernel
theorem dL_digest_82 : decode cL_digest 82 = .ok (.iload_n 3, 1) := by decide +kernel
theorem dL_digest_83 : decode cL_digest 83 = .ok (.aload_n 0, 1) := by decide +kernel
theorem dL_digest_84 : decode cL_digest 84 = .ok (.iconst 0, 1) := by decide +kernel
theorem dL_digest_85 : decode cL_digest 85 = .ok (.invokevirtual 13, 3) := by decide +kernel
theorem dL_digest_88 : decode cL_digest 88 = .ok (.bipush 9, 2) := by decide +kernel
theorem dL_digest_90 : decode cL_digest 90 = .ok (.imul, 1) := by decide +kernel
theorem dL_digest_91 : decode cL_digest 91 = .ok (.if_icmp .ge 29, 3) := by decide +kernel
theorem dL_digest_94 : decode cL_digest 94 = .ok (.ldc2_w 11, 3) := by decide +kernel
theorem dL_digest_97 : decode cL_digest 97 = .ok (.lload_n 1, 1) := by decide +kernel
theorem dL_digest_98 : decode cL_digest 98 = .ok (.lmul, 1) := by decide +kernel
theorem dL_digest_99 : decode cL_digest 99 = .ok (.aload_n 0, 1) := by decide +kernel
theorem dL_digest_100 : decode cL_digest 100 = .ok (.iload_n 3, 1) := by decide +kernel
theorem dL_digest_101 : decode cL_digest 101 = .ok (.bipush 9, 2) := by decide +kernel
theorem dL_digest_103 : decode cL_digest 103 = .ok (.idiv, 1) := by decide +kernel
theorem dL_digest_104 : decode cL_digest 104 = .ok (.iload_n 3, 1) := by decide +kernel
theorem dL_digest_105 : decode cL_digest 105 = .ok (.bipush 9, 2) := by decide +kernel
theorem dL_digest_107 : decode cL_digest 107 = .ok (.irem, 1) := by decide +kernel
theorem dL_digest_108 : decode cL_digest 108 = .ok (.invokevirtual 23, 3) := by decide +kernel
theorem dL_digest_111 : decode cL_digest 111 = .ok (.i2l, 1) := by decide +kernel
theorem dL_digest_112 : decode cL_digest 112 = .ok (.ladd, 1) := by decide +kernel
theorem dL_digest_113 : decode cL_digest 113 = .ok (.lstore_n 1, 1) := by decide +kernel
theorem dL_digest_114 : decode cL_digest 114 = .ok (.iinc 3 1, 3) := by decide +kernel
theorem dL_digest_117 : decode cL_digest 117 = .ok (.goto (-35), 3) := by decide +kernel
theorem dL_digest_120 : decode cL_digest 120 = .ok (.iconst 0, 1) := by decide +kernel
theorem dL_digest_121 : decode cL_digest 121 = .ok (.istore_n 3, 1) := by decide +kernel
theorem dL_digest_122 : decode cL_digest 122 = .ok (.iload_n 3, 1) := by decide +kernel
theorem dL_digest_123 : decode cL_digest 123 = .ok (.aload_n 0, 1) := by decide +kernel
theorem dL_digest_124 : decode cL_digest 124 = .ok (.iconst 0, 1) := by decide +kernel
theorem dL_digest_125 : decode cL_digest 125 = .ok (.invokevirtual 13, 3) := by decide +kernel
theorem dL_digest_128 : decode cL_digest 128 = .ok (.bipush 10, 2) := by decide +kernel
theorem dL_digest_130 : decode cL_digest 130 = .ok (.imul, 1) := by decide +kernel
theorem dL_digest_131 : decode cL_digest 131 = .ok (.if_icmp .ge 33, 3) := by decide +kernel
theorem dL_digest_134 : decode cL_digest 134 = .ok (.ldc2_w 11, 3) := by decide +kernel
theorem dL_digest_137 : decode cL_digest 137 = .ok (.lload_n 1, 1) := by decide +kernel
theorem dL_digest_138 : decode cL_digest 138 = .ok (.lmul, 1) := by decide +kernel
theorem dL_digest_139 : decode cL_digest 139 = .ok (.aload_n 0, 1) := by decide +kernel
theorem dL_digest_140 : decode cL_digest 140 = .ok (.iload_n 3, 1) := by decide +kernel
theorem dL_digest_141 : decode cL_digest 141 = .ok (.bipush 10, 2) := by decide +kernel
theorem dL_digest_143 : decode cL_digest 143 = .ok (.idiv, 1) := by decide +kernel
theorem dL_digest_144 : decode cL_digest 144 = .ok (.iload_n 3, 1) := by decide +kernel
theorem dL_digest_145 : decode cL_digest 145 = .ok (.iconst 2, 1) := by decide +kernel
theorem dL_digest_146 : decode cL_digest 146 = .ok (.idiv, 1) := by decide +kernel
theorem dL_digest_147 : decode cL_digest 147 = .ok (.iconst 5, 1) := by decide +kernel
theorem dL_digest_148 : decode cL_digest 148 = .ok (.irem, 1) := by decide +kernel
theorem dL_digest_149 : decode cL_digest 149 = .ok (.iload_n 3, 1) := by decide +kernel
theorem dL_digest_150 : decode cL_digest 150 = .ok (.iconst 2, 1) := by decide +kernel
theorem dL_digest_151 : decode cL_digest 151 = .ok (.irem, 1) := by decide +kernel
theorem dL_digest_152 : decode cL_digest 152 = .ok (.invokevirtual 26, 3) := by decide +kernel
theorem dL_digest_155 : decode cL_digest 155 = .ok (.i2l, 1) := by decide +kernel
theorem dL_digest_156 : decode cL_digest 156 = .ok (.ladd, 1) := by decide +kernel
theorem dL_digest_157 : decode cL_digest 157 = .ok (.lstore_n 1, 1) := by decide +kernel
theorem dL_digest_158 : decode cL_digest 158 = .ok (.iinc 3 1, 3) := by decide +kernel
theorem dL_digest_161 : decode cL_digest 161 = .ok (.goto (-39), 3) := by decide +kernel
theorem dL_digest_164 : decode cL_digest 164 = .ok (.lload_n 1, 1) := by decide +kernel
theorem dL_digest_165 : decode cL_digest 165 = .ok (.lreturn, 1) := by decide +kernel
theorem dL_holds_0 : decode cL_holds 0 = .ok (.iconst 0, 1) := by decide +kernel
theorem dL_holds_1 : decode cL_holds 1 = .ok (.istore_n 1, 1) := by decide +kernel
theorem dL_holds_2 : decode cL_holds 2 = .ok (.iconst 0, 1) := by decide +kernel
theorem dL_holds_3 : decode cL_holds 3 = .ok (.istore_n 2, 1) := by decide +kernel
theorem dL_holds_4 : decode cL_holds 4 = .ok (.iconst 0, 1) := by decide +kernel
theorem dL_holds_5 : decode cL_holds 5 = .ok (.istore_n 3, 1) := by decide +kernel
theorem dL_holds_6 : decode cL_holds 6 = .ok (.iload_n 3, 1) := by decide +kernel
theorem dL_holds_7 : decode cL_holds 7 = .ok (.bipush 64, 2) := by decide +kernel
theorem dL_holds_9 : decode cL_holds 9 = .ok (.if_icmp .ge 63, 3) := by decide +kernel
theorem dL_holds_12 : decode cL_holds 12 = .ok (.aload_n 0, 1) := by decide +kernel
theorem dL_holds_13 : decode cL_holds 13 = .ok (.iload_n 3, 1) := by decide +kernel
theorem dL_holds_14 : decode cL_holds 14 = .ok (.iconst 2, 1) := by decide +kernel
theorem dL_holds_15 : decode cL_holds 15 = .ok (.invokevirtual 19, 3) := by decide +kernel
theorem dL_holds_18 : decode cL_holds 18 = .ok (.istore 4, 2) := by decide +kernel
theorem dL_holds_20 : decode cL_holds 20 = .ok (.iload_n 2, 1) := by decide +kernel
theorem dL_holds_21 : decode cL_holds 21 = .ok (.iload 4, 2) := by decide +kernel
theorem dL_holds_23 : decode cL_holds 23 = .ok (.ldc 32, 2) := by decide +kernel
theorem dL_holds_25 : decode cL_holds 25 = .ok (.if_icmp .ne 7, 3) := by decide +kernel
theorem dL_holds_28 : decode cL_holds 28 = .ok (.iconst 0, 1) := by decide +kernel
theorem dL_holds_29 : decode cL_holds 29 = .ok (.goto 4, 3) := by decide +kernel
theorem dL_holds_32 : decode cL_holds 32 = .ok (.iconst 1, 1) := by decide +kernel
theorem dL_holds_33 : decode cL_holds 33 = .ok (.iadd, 1) := by decide +kernel
theorem dL_holds_34 : decode cL_holds 34 = .ok (.istore_n 2, 1) := by decide +kernel
theorem dL_holds_35 : decode cL_holds 35 = .ok (.iload 4, 2) := by decide +kernel
theorem dL_holds_37 : decode cL_holds 37 = .ok (.ldc 32, 2) := by decide +kernel
theorem dL_holds_39 : decode cL_holds 39 = .ok (.if_icmp .eq 27, 3) := by decide +kernel
theorem dL_holds_42 : decode cL_holds 42 = .ok (.aload_n 0, 1) := by decide +kernel
theorem dL_holds_43 : decode cL_holds 43 = .ok (.iload 4, 2) := by decide +kernel
theorem dL_holds_45 : decode cL_holds 45 = .ok (.iconst 0, 1) := by decide +kernel
theorem dL_holds_46 : decode cL_holds 46 = .ok (.invokevirtual 23, 3) := by decide +kernel
theorem dL_holds_49 : decode cL_holds 49 = .ok (.iload_n 3, 1) := by decide +kernel
theorem dL_holds_50 : decode cL_holds 50 = .ok (.if_icmp .ne 14, 3) := by decide +kernel
theorem dL_holds_53 : decode cL_holds 53 = .ok (.aload_n 0, 1) := by decide +kernel
theorem dL_holds_54 : decode cL_holds 54 = .ok (.iload_n 3, 1) := by decide +kernel
theorem dL_holds_55 : decode cL_holds 55 = .ok (.iconst 0, 1) := by decide +kernel
theorem dL_holds_56 : decode cL_holds 56 = .ok (.invokevirtual 19, 3) := by decide +kernel
theorem dL_holds_59 : decode cL_holds 59 = .ok (.bipush 7, 2) := by decide +kernel
theorem dL_holds_61 : decode cL_holds 61 = .ok (.if_icmp .ne 5, 3) := by decide +kernel
theorem dL_holds_64 : decode cL_holds 64 = .ok (.iconst 0, 1) := by decide +kernel
theorem dL_holds_65 : decode cL_holds 65 = .ok (.ireturn, 1) := by decide +kernel
theorem dL_holds_66 : decode cL_holds 66 = .ok (.iinc 3 1, 3) := by decide +kernel
theorem dL_holds_69 : decode cL_holds 69 = .ok (.goto (-63), 3) := by decide +kernel
theorem dL_holds_72 : decode cL_holds 72 = .ok (.iconst 0, 1) := by decide +kernel
theorem dL_holds_73 : decode cL_holds 73 = .ok (.istore_n 3, 1) := by decide +kernel
theorem dL_holds_74 : decode cL_holds 74 = .ok (.iload_n 3, 1) := by decide +kernel
theorem dL_holds_75 : decode cL_holds 75 = .ok (.aload_n 0, 1) := by decide +kernel
theorem dL_holds_76 : decode cL_holds 76 = .ok (.iconst 0, 1) := by decide +kernel
theorem dL_holds_77 : decode cL_holds 77 = .ok (.invokevirtual 13, 3) := by decide +kernel
theorem dL_holds_80 : decode cL_holds 80 = .ok (.if_icmp .ge 266, 3) := by decide +kernel
theorem dL_holds_83 : decode cL_holds 83 = .ok (.aload_n 0, 1) := by decide +kernel
theorem dL_holds_84 : decode cL_holds 84 = .ok (.iload_n 3, 1) := by decide +kernel
theorem dL_holds_85 : decode cL_holds 85 = .ok (.iconst 2, 1) := by decide +kernel
theorem dL_holds_86 : decode cL_holds 86 = .ok (.invokevirtual 23, 3) := by decide +kernel
theorem dL_holds_89 : decode cL_holds 89 = .ok (.istore 4, 2) := by decide +kernel
theorem dL_holds_91 : decode cL_holds 91 = .ok (.iload_n 1, 1) := by decide +kernel
theorem dL_holds_92 : decode cL_holds 92 = .ok (.aload_n 0, 1) := by decide +kernel
theorem dL_holds_93 : decode cL_holds 93 = .ok (.iload_n 3, 1) := by decide +kernel
theorem dL_holds_94 : decode cL_holds 94 = .ok (.iconst 0, 1) := by decide +kernel
theorem dL_holds_95 : decode cL_holds 95 = .ok (.invokevirtual 23, 3) := by decide +kernel
theorem dL_holds_98 : decode cL_holds 98 = .ok (.ldc 32, 2) := by decide +kernel
theorem dL_holds_100 : decode cL_holds 100 = .ok (.if_icmp .ne 7, 3) := by decide +kernel
theorem dL_holds_103 : decode cL_holds 103 = .ok (.iconst 1, 1) := by decide +kernel
theorem dL_holds_104 : decode cL_holds 104 = .ok (.goto 4, 3) := by decide +kernel
theorem dL_holds_107 : decode cL_holds 107 = .ok (.iconst 0, 1) := by decide +kernel
theorem dL_holds_108 : decode cL_holds 108 = .ok (.iadd, 1) := by decide +kernel
theorem dL_holds_109 : decode cL_holds 109 = .ok (.istore_n 1, 1) := by decide +kernel
theorem dL_holds_110 : decode cL_holds 110 = .ok (.iload 4, 2) := by decide +kernel
theorem dL_holds_112 : decode cL_holds 112 = .ok (.ifCond .lt 59, 3) := by decide +kernel
theorem dL_holds_115 : decode cL_holds 115 = .ok (.iload 4, 2) := by decide +kernel
theorem dL_holds_117 : decode cL_holds 117 = .ok (.bipush 10, 2) := by decide +kernel
theorem dL_holds_119 : decode cL_holds 119 = .ok (.if_icmp .ge 52, 3) := by decide +kernel
theorem dL_holds_122 : decode cL_holds 122 = .ok (.aload_n 0, 1) := by decide +kernel
theorem dL_holds_123 : decode cL_holds 123 = .ok (.iload_n 3, 1) := by decide +kernel
theorem dL_holds_124 : decode cL_holds 124 = .ok (.iconst 3, 1) := by decide +kernel
theorem dL_holds_125 : decode cL_holds 125 = .ok (.invokevirtual 23, 3) := by decide +kernel
theorem dL_holds_128 : decode cL_holds 128 = .ok (.ifCond .lt 43, 3) := by decide +kernel
theorem dL_holds_131 : decode cL_holds 131 = .ok (.aload_n 0, 1) := by decide +kernel
theorem dL_holds_132 : decode cL_holds 132 = .ok (.iload_n 3, 1) := by decide +kernel
theorem dL_holds_133 : decode cL_holds 133 = .ok (.iconst 3, 1) := by decide +kernel
theorem dL_holds_134 : decode cL_holds 134 = .ok (.invokevirtual 23, 3) := by decide +kernel
theorem dL_holds_137 : decode cL_holds 137 = .ok (.aload_n 0, 1) := by decide +kernel
theorem dL_holds_138 : decode cL_holds 138 = .ok (.iconst 3, 1) := by decide +kernel
theorem dL_holds_139 : decode cL_holds 139 = .ok (.invokevirtual 13, 3) := by decide +kernel
theorem dL_holds_142 : decode cL_holds 142 = .ok (.if_icmp .gt 29, 3) := by decide +kernel
theorem dL_holds_145 : decode cL_holds 145 = .ok (.aload_n 0, 1) := by decide +kernel
theorem dL_holds_146 : decode cL_holds 146 = .ok (.iload_n 3, 1) := by decide +kernel
theorem dL_holds_147 : decode cL_holds 147 = .ok (.bipush 6, 2) := by decide +kernel
theorem dL_holds_149 : decode cL_holds 149 = .ok (.invokevirtual 23, 3) := by decide +kernel
theorem dL_holds_152 : decode cL_holds 152 = .ok (.ifCond .lt 19, 3) := by decide +kernel
theorem dL_holds_155 : decode cL_holds 155 = .ok (.aload_n 0, 1) := by decide +kernel
theorem dL_holds_156 : decode cL_holds 156 = .ok (.iload_n 3, 1) := by decide +kernel
theorem dL_holds_157 : decode cL_holds 157 = .ok (.bipush 6, 2) := by decide +kernel
theorem dL_holds_159 : decode cL_holds 159 = .ok (.invokevirtual 23, 3) := by decide +kernel
theorem dL_holds_162 : decode cL_holds 162 = .ok (.bipush 32, 2) := by decide +kernel
theorem dL_holds_164 : decode cL_holds 164 = .ok (.if_icmp .ge 7, 3) := by decide +kernel
theorem dL_holds_167 : decode cL_holds 167 = .ok (.iconst 1, 1) := by decide +kernel
theorem dL_holds_168 : decode cL_holds 168 = .ok (.goto 4, 3) := by decide +kernel
theorem dL_holds_171 : decode cL_holds 171 = .ok (.iconst 0, 1) := by decide +kernel
theorem dL_holds_172 : decode cL_holds 172 = .ok (.istore 5, 2) := by decide +kernel
theorem dL_holds_174 : decode cL_holds 174 = .ok (.iconst 0, 1) := by decide +kernel
theorem dL_holds_175 : decode cL_holds 175 = .ok (.istore 6, 2) := by decide +kernel
theorem dL_holds_177 : decode cL_holds 177 = .ok (.iload 6, 2) := by decide +kernel
theorem dL_holds_179 : decode cL_holds 179 = .ok (.iconst 5, 1) := by decide +kernel
theorem dL_holds_180 : decode cL_holds 180 = .ok (.if_icmp .ge 153, 3) := by decide +kernel
theorem dL_holds_183 : decode cL_holds 183 = .ok (.aload_n 0, 1) := by decide +kernel
theorem dL_holds_184 : decode cL_holds 184 = .ok (.iload_n 3, 1) := by decide +kernel
theorem dL_holds_185 : decode cL_holds 185 = .ok (.iload 6, 2) := by decide +kernel
theorem dL_holds_187 : decode cL_holds 187 = .ok (.iconst 0, 1) := by decide +kernel
theorem dL_holds_188 : decode cL_holds 188 = .ok (.invokevirtual 26, 3) := by decide +kernel
theorem dL_holds_191 : decode cL_holds 191 = .ok (.istore 7, 2) := by decide +kernel
theorem dL_holds_193 : decode cL_holds 193 = .ok (.aload_n 0, 1) := by decide +kernel
theorem dL_holds_194 : decode cL_holds 194 = .ok (.iload_n 3, 1) := by decide +kernel
theorem dL_holds_195 : decode cL_holds 195 = .ok (.iload 6, 2) := by decide +kernel
theorem dL_holds_197 : decode cL_holds 197 = .ok (.iconst 1, 1) := by decide +kernel
theorem dL_holds_198 : decode cL_holds 198 = .ok (.invokevirtual 26, 3) := by decide +kernel
theorem dL_holds_201 : decode cL_holds 201 = .ok (.istore 8, 2) := by decide +kernel
theorem dL_holds_203 : decode cL_holds 203 = .ok (.aload_n 0, 1) := by decide +kernel
theorem dL_holds_204 : decode cL_holds 204 = .ok (.iload_n 3, 1) := by decide +kernel
theorem dL_holds_205 : decode cL_holds 205 = .ok (.bipush 6, 2) := by decide +kernel
theorem dL_holds_207 : decode cL_holds 207 = .ok (.invokevirtual 23, 3) := by decide +kernel
theorem dL_holds_210 : decode cL_holds 210 = .ok (.iload 6, 2) := by decide +kernel
theorem dL_holds_212 : decode cL_holds 212 = .ok (.ishr, 1) := by decide +kernel
theorem dL_holds_213 : decode cL_holds 213 = .ok (.iconst 1, 1) := by decide +kernel
theorem dL_holds_214 : decode cL_holds 214 = .ok (.iand, 1) := by decide +kernel
theorem dL_holds_215 : decode cL_holds 215 = .ok (.iconst 1, 1) := by decide +kernel
theorem dL_holds_216 : decode cL_holds 216 = .ok (.if_icmp .ne 7, 3) := by decide +kernel
theorem dL_holds_219 : decode cL_holds 219 = .ok (.iconst 1, 1) := by decide +kernel
theorem dL_holds_220 : decode cL_holds 220 = .ok (.goto 4, 3) := by decide +kernel
theorem dL_holds_223 : decode cL_holds 223 = .ok (.iconst 0, 1) := by decide +kernel
theorem dL_holds_224 : decode cL_holds 224 = .ok (.istore 9, 2) := by decide +kernel
theorem dL_holds_226 : decode cL_holds 226 = .ok (.aload_n 0, 1) := by decide +kernel
theorem dL_holds_227 : decode cL_holds 227 = .ok (.iload_n 3, 1) := by decide +kernel
theorem dL_holds_228 : decode cL_holds 228 = .ok (.iconst 5, 1) := by decide +kernel
theorem dL_holds_229 : decode cL_holds 229 = .ok (.invokevirtual 23, 3) := by decide +kernel
theorem dL_holds_232 : decode cL_holds 232 = .ok (.iload 6, 2) := by decide +kernel
theorem dL_holds_234 : decode cL_holds 234 = .ok (.ishr, 1) := by decide +kernel
theorem dL_holds_235 : decode cL_holds 235 = .ok (.iconst 1, 1) := by decide +kernel
theorem dL_holds_236 : decode cL_holds 236 = .ok (.iand, 1) := by decide +kernel
theorem dL_holds_237 : decode cL_holds 237 = .ok (.iconst 1, 1) := by decide +kernel
theorem dL_holds_238 : decode cL_holds 238 = .ok (.if_icmp .ne 7, 3) := by decide +kernel
theorem dL_holds_241 : decode cL_holds 241 = .ok (.iconst 1, 1) := by decide +kernel
theorem dL_holds_242 : decode cL_holds 242 = .ok (.goto 4, 3) := by decide +kernel
theorem dL_holds_245 : decode cL_holds 245 = .ok (.iconst 0, 1) := by decide +kernel
theorem dL_holds_246 : decode cL_holds 246 = .ok (.istore 10, 2) := by decide +kernel
theorem dL_holds_248 : decode cL_holds 248 = .ok (.iload 5, 2) := by decide +kernel
theorem dL_holds_250 : decode cL_holds 250 = .ok (.ifCond .eq 74, 3) := by decide +kernel
theorem dL_holds_253 : decode cL_holds 253 = .ok (.iload 10, 2) := by decide +kernel
theorem dL_holds_255 : decode cL_holds 255 = .ok (.iload 6, 2) := by decide +kernel
theorem dL_holds_257 : decode cL_holds 257 = .ok (.iload 4, 2) := by decide +kernel
theorem dL_holds_259 : decode cL_holds 259 = .ok (.iadd, 1) := by decide +kernel
theorem dL_holds_260 : decode cL_holds 260 = .ok (.bipush 8, 2) := by decide +kernel
theorem dL_holds_262 : decode cL_holds 262 = .ok (.if_icmp .le 7, 3) := by decide +kernel
theorem dL_holds_265 : decode cL_holds 265 = .ok (.iconst 1, 1) := by decide +kernel
theorem dL_holds_266 : decode cL_holds 266 = .ok (.goto 4, 3) := by decide +kernel
theorem dL_holds_269 : decode cL_holds 269 = .ok (.iconst 0, 1) := by decide +kernel
theorem dL_holds_270 : decode cL_holds 270 = .ok (.if_icmp .ne 54, 3) := by decide +kernel
theorem dL_holds_273 : decode cL_holds 273 = .ok (.iload 9, 2) := by decide +kernel
theorem dL_holds_275 : decode cL_holds 275 = .ok (.ifCond .eq 31, 3) := by decide +kernel
theorem dL_holds_278 : decode cL_holds 278 = .ok (.iload 7, 2) := by decide +kernel
theorem dL_holds_280 : decode cL_holds 280 = .ok (.ifCond .lt 44, 3) := by decide +kernel
theorem dL_holds_283 : decode cL_holds 283 = .ok (.iload 7, 2) := by decide +kernel
theorem dL_holds_285 : decode cL_holds 285 = .ok (.bipush 7, 2) := by decide +kernel
theorem dL_holds_287 : decode cL_holds 287 = .ok (.if_icmp .ge 37, 3) := by decide +kernel
theorem dL_holds_290 : decode cL_holds 290 = .ok (.iload 8, 2) := by decide +kernel
theorem dL_holds_292 : decode cL_holds 292 = .ok (.ifCond .le 32, 3) := by decide +kernel
theorem dL_holds_295 : decode cL_holds 295 = .ok (.iload 8, 2) := by decide +kernel
theorem dL_holds_297 : decode cL_holds 297 = .ok (.sipush 1000, 3) := by decide +kernel
theorem dL_holds_300 : decode cL_holds 300 = .ok (.if_icmp .ge 24, 3) := by decide +kernel
theorem dL_holds_303 : decode cL_holds 303 = .ok (.goto 17, 3) := by decide +kernel
theorem dL_holds_306 : decode cL_holds 306 = .ok (.iload 7, 2) := by decide +kernel
theorem dL_holds_308 : decode cL_holds 308 = .ok (.ldc 32, 2) := by decide +kernel
theorem dL_holds_310 : decode cL_holds 310 = .ok (.if_icmp .ne 14, 3) := by decide +kernel
theorem dL_holds_313 : decode cL_holds 313 = .ok (.iload 8, 2) := by decide +kernel
theorem dL_holds_315 : decode cL_holds 315 = .ok (.ldc 32, 2) := by decide +kernel
theorem dL_holds_317 : decode cL_holds 317 = .ok (.if_icmp .ne 7, 3) := by decide +kernel
theorem dL_holds_320 : decode cL_holds 320 = .ok (.iconst 1, 1) := by decide +kernel
theorem dL_holds_321 : decode cL_holds 321 = .ok (.goto 4, 3) := by decide +kernel
theorem dL_holds_324 : decode cL_holds 324 = .ok (.iconst 0, 1) := by decide +kernel
theorem dL_holds_325 : decode cL_holds 325 = .ok (.istore 5, 2) := by decide +kernel
theorem dL_holds_327 : decode cL_holds 327 = .ok (.iinc 6 1, 3) := by decide +kernel
theorem dL_holds_330 : decode cL_holds 330 = .ok (.goto (-153), 3) := by decide +kernel
theorem dL_holds_333 : decode cL_holds 333 = .ok (.iload 5, 2) := by decide +kernel
theorem dL_holds_335 : decode cL_holds 335 = .ok (.ifCond .ne 5, 3) := by decide +kernel
theorem dL_holds_338 : decode cL_holds 338 = .ok (.iconst 0, 1) := by decide +kernel
theorem dL_holds_339 : decode cL_holds 339 = .ok (.ireturn, 1) := by decide +kernel
theorem dL_holds_340 : decode cL_holds 340 = .ok (.iinc 3 1, 3) := by decide +kernel
theorem dL_holds_343 : decode cL_holds 343 = .ok (.goto (-269), 3) := by decide +kernel
theorem dL_holds_346 : decode cL_holds 346 = .ok (.aload_n 0, 1) := by decide +kernel
theorem dL_holds_347 : decode cL_holds 347 = .ok (.iconst 5, 1) := by decide +kernel
theorem dL_holds_348 : decode cL_holds 348 = .ok (.invokevirtual 13, 3) := by decide +kernel
theorem dL_holds_351 : decode cL_holds 351 = .ok (.istore_n 3, 1) := by decide +kernel
theorem dL_holds_352 : decode cL_holds 352 = .ok (.iload_n 1, 1) := by decide +kernel
theorem dL_holds_353 : decode cL_holds 353 = .ok (.aload_n 0, 1) := by decide +kernel
theorem dL_holds_354 : decode cL_holds 354 = .ok (.iconst 4, 1) := by decide +kernel
theorem dL_holds_355 : decode cL_holds 355 = .ok (.invokevirtual 13, 3) := by decide +kernel
theorem dL_holds_358 : decode cL_holds 358 = .ok (.if_icmp .ne 84, 3) := by decide +kernel
theorem dL_holds_361 : decode cL_holds 361 = .ok (.iload_n 2, 1) := by decide +kernel
theorem dL_holds_362 : decode cL_holds 362 = .ok (.iload_n 1, 1) := by decide +kernel
theorem dL_holds_363 : decode cL_holds 363 = .ok (.iadd, 1) := by decide +kernel
theorem dL_holds_364 : decode cL_holds 364 = .ok (.aload_n 0, 1) := by decide +kernel
theorem dL_holds_365 : decode cL_holds 365 = .ok (.iconst 0, 1) := by decide +kernel
theorem dL_holds_366 : decode cL_holds 366 = .ok (.invokevirtual 13, 3) := by decide +kernel
theorem dL_holds_369 : decode cL_holds 369 = .ok (.if_icmp .ne 73, 3) := by decide +kernel
theorem dL_holds_372 : decode cL_holds 372 = .ok (.aload_n 0, 1) := by decide +kernel
theorem dL_holds_373 : decode cL_holds 373 = .ok (.bipush 6, 2) := by decide +kernel
theorem dL_holds_375 : decode cL_holds 375 = .ok (.invokevirtual 13, 3) := by decide +kernel
theorem dL_holds_378 : decode cL_holds 378 = .ok (.iconst 5, 1) := by decide +kernel
theorem dL_holds_379 : decode cL_holds 379 = .ok (.aload_n 0, 1) := by decide +kernel
theorem dL_holds_380 : decode cL_holds 380 = .ok (.iconst 2, 1) := by decide +kernel
theorem dL_holds_381 : decode cL_holds 381 = .ok (.invokevirtual 13, 3) := by decide +kernel
theorem dL_holds_384 : decode cL_holds 384 = .ok (.imul, 1) := by decide +kernel
theorem dL_holds_385 : decode cL_holds 385 = .ok (.if_icmp .lt 57, 3) := by decide +kernel
theorem dL_holds_388 : decode cL_holds 388 = .ok (.aload_n 0, 1) := by decide +kernel
theorem dL_holds_389 : decode cL_holds 389 = .ok (.bipush 6, 2) := by decide +kernel
theorem dL_holds_391 : decode cL_holds 391 = .ok (.invokevirtual 13, 3) := by decide +kernel
theorem dL_holds_394 : decode cL_holds 394 = .ok (.iconst 5, 1) := by decide +kernel
theorem dL_holds_395 : decode cL_holds 395 = .ok (.aload_n 0, 1) := by decide +kernel
theorem dL_holds_396 : decode cL_holds 396 = .ok (.iconst 2, 1) := by decide +kernel
theorem dL_holds_397 : decode cL_holds 397 = .ok (.invokevirtual 13, 3) := by decide +kernel
theorem dL_holds_400 : decode cL_holds 400 = .ok (.imul, 1) := by decide +kernel
theorem dL_holds_401 : decode cL_holds 401 = .ok (.aload_n 0, 1) := by decide +kernel
theorem dL_holds_402 : decode cL_holds 402 = .ok (.iconst 1, 1) := by decide +kernel
theorem dL_holds_403 : decode cL_holds 403 = .ok (.invokevirtual 13, 3) := by decide +kernel
theorem dL_holds_406 : decode cL_holds 406 = .ok (.iadd, 1) := by decide +kernel
theorem dL_holds_407 : decode cL_holds 407 = .ok (.if_icmp .ne 35, 3) := by decide +kernel
theorem dL_holds_410 : decode cL_holds 410 = .ok (.iload_n 3, 1) := by decide +kernel
theorem dL_holds_411 : decode cL_holds 411 = .ok (.ldc 32, 2) := by decide +kernel
theorem dL_holds_413 : decode cL_holds 413 = .ok (.if_icmp .eq 25, 3) := by decide +kernel
theorem dL_holds_416 : decode cL_holds 416 = .ok (.iload_n 3, 1) := by decide +kernel
theorem dL_holds_417 : decode cL_holds 417 = .ok (.ifCond .lt 25, 3) := by decide +kernel
theorem dL_holds_420 : decode cL_holds 420 = .ok (.iload_n 3, 1) := by decide +kernel
theorem dL_holds_421 : decode cL_holds 421 = .ok (.aload_n 0, 1) := by decide +kernel
theorem dL_holds_422 : decode cL_holds 422 = .ok (.iconst 0, 1) := by decide +kernel
theorem dL_holds_423 : decode cL_holds 423 = .ok (.invokevirtual 13, 3) := by decide +kernel
theorem dL_holds_426 : decode cL_holds 426 = .ok (.if_icmp .ge 16, 3) := by decide +kernel
theorem dL_holds_429 : decode cL_holds 429 = .ok (.aload_n 0, 1) := by decide +kernel
theorem dL_holds_430 : decode cL_holds 430 = .ok (.iload_n 3, 1) := by decide +kernel
theorem dL_holds_431 : decode cL_holds 431 = .ok (.iconst 3, 1) := by decide +kernel
theorem dL_holds_432 : decode cL_holds 432 = .ok (.invokevirtual 23, 3) := by decide +kernel
theorem dL_holds_435 : decode cL_holds 435 = .ok (.ifCond .le 7, 3) := by decide +kernel
theorem dL_holds_438 : decode cL_holds 438 = .ok (.iconst 1, 1) := by decide +kernel
theorem dL_holds_439 : decode cL_holds 439 = .ok (.goto 4, 3) := by decide +kernel
theorem dL_holds_442 : decode cL_holds 442 = .ok (.iconst 0, 1) := by decide +kernel
theorem dL_holds_443 : decode cL_holds 443 = .ok (.ireturn, 1) := by decide +kernel
theorem dL_digits_0 : decode cL_digits 0 = .ok (.iload_n 1, 1) := by decide +kernel
theorem dL_digits_1 : decode cL_digits 1 = .ok (.bipush 100, 2) := by decide +kernel
theorem dL_digits_3 : decode cL_digits 3 = .ok (.if_icmp .lt 17, 3) := by decide +kernel
theorem dL_digits_6 : decode cL_digits 6 = .ok (.aload_n 0, 1) := by decide +kernel
theorem dL_digits_7 : decode cL_digits 7 = .ok (.bipush 48, 2) := by decide +kernel
theorem dL_digits_9 : decode cL_digits 9 = .ok (.iload_n 1, 1) := by decide +kernel
theorem dL_digits_10 : decode cL_digits 10 = .ok (.bipush 100, 2) := by decide +kernel
theorem dL_digits_12 : decode cL_digits 12 = .ok (.idiv, 1) := by decide +kernel
theorem dL_digits_13 : decode cL_digits 13 = .ok (.iadd, 1) := by decide +kernel
theorem dL_digits_14 : decode cL_digits 14 = .ok (.invokevirtual 33, 3) := by decide +kernel
theorem dL_digits_17 : decode cL_digits 17 = .ok (.ifCond .le 30, 3) := by decide +kernel
theorem dL_digits_20 : decode cL_digits 20 = .ok (.iload_n 1, 1) := by decide +kernel
theorem dL_digits_21 : decode cL_digits 21 = .ok (.bipush 10, 2) := by decide +kernel
theorem dL_digits_23 : decode cL_digits 23 = .ok (.if_icmp .lt 20, 3) := by decide +kernel
theorem dL_digits_26 : decode cL_digits 26 = .ok (.aload_n 0, 1) := by decide +kernel
theorem dL_digits_27 : decode cL_digits 27 = .ok (.bipush 48, 2) := by decide +kernel
theorem dL_digits_29 : decode cL_digits 29 = .ok (.iload_n 1, 1) := by decide +kernel
theorem dL_digits_30 : decode cL_digits 30 = .ok (.bipush 10, 2) := by decide +kernel
theorem dL_digits_32 : decode cL_digits 32 = .ok (.idiv, 1) := by decide +kernel
theorem dL_digits_33 : decode cL_digits 33 = .ok (.bipush 10, 2) := by decide +kernel
theorem dL_digits_35 : decode cL_digits 35 = .ok (.irem, 1) := by decide +kernel
theorem dL_digits_36 : decode cL_digits 36 = .ok (.iadd, 1) := by decide +kernel
theorem dL_digits_37 : decode cL_digits 37 = .ok (.invokevirtual 33, 3) := by decide +kernel
theorem dL_digits_40 : decode cL_digits 40 = .ok (.ifCond .le 7, 3) := by decide +kernel
theorem dL_digits_43 : decode cL_digits 43 = .ok (.iconst 1, 1) := by decide +kernel
theorem dL_digits_44 : decode cL_digits 44 = .ok (.goto 4, 3) := by decide +kernel
theorem dL_digits_47 : decode cL_digits 47 = .ok (.iconst 0, 1) := by decide +kernel
theorem dL_digits_48 : decode cL_digits 48 = .ok (.istore_n 2, 1) := by decide +kernel
theorem dL_digits_49 : decode cL_digits 49 = .ok (.iload_n 2, 1) := by decide +kernel
theorem dL_digits_50 : decode cL_digits 50 = .ok (.ifCond .eq 21, 3) := by decide +kernel
theorem dL_digits_53 : decode cL_digits 53 = .ok (.aload_n 0, 1) := by decide +kernel
theorem dL_digits_54 : decode cL_digits 54 = .ok (.bipush 48, 2) := by decide +kernel
theorem dL_digits_56 : decode cL_digits 56 = .ok (.iload_n 1, 1) := by decide +kernel
theorem dL_digits_57 : decode cL_digits 57 = .ok (.bipush 10, 2) := by decide +kernel
theorem dL_digits_59 : decode cL_digits 59 = .ok (.irem, 1) := by decide +kernel
theorem dL_digits_60 : decode cL_digits 60 = .ok (.iadd, 1) := by decide +kernel
theorem dL_digits_61 : decode cL_digits 61 = .ok (.invokevirtual 33, 3) := by decide +kernel
theorem dL_digits_64 : decode cL_digits 64 = .ok (.ifCond .le 7, 3) := by decide +kernel
theorem dL_digits_67 : decode cL_digits 67 = .ok (.iconst 1, 1) := by decide +kernel
theorem dL_digits_68 : decode cL_digits 68 = .ok (.goto 4, 3) := by decide +kernel
theorem dL_digits_71 : decode cL_digits 71 = .ok (.iconst 0, 1) := by decide +kernel
theorem dL_digits_72 : decode cL_digits 72 = .ok (.ireturn, 1) := by decide +kernel
theorem dL_types_0 : decode cL_types 0 = .ok (.iload_n 1, 1) := by decide +kernel
theorem dL_types_1 : decode cL_types 1 = .ok (.iconst 5, 1) := by decide +kernel
theorem dL_types_2 : decode cL_types 2 = .ok (.invokestatic 36, 3) := by decide +kernel
theorem dL_types_5 : decode cL_types 5 = .ok (.istore_n 2, 1) := by decide +kernel
theorem dL_types_6 : decode cL_types 6 = .ok (.aload_n 0, 1) := by decide +kernel
theorem dL_types_7 : decode cL_types 7 = .ok (.invokevirtual 39, 3) := by decide +kernel
theorem dL_types_10 : decode cL_types 10 = .ok (.ifCond .lt 7, 3) := by decide +kernel
theorem dL_types_13 : decode cL_types 13 = .ok (.iconst 1, 1) := by decide +kernel
theorem dL_types_14 : decode cL_types 14 = .ok (.goto 4, 3) := by decide +kernel
theorem dL_types_17 : decode cL_types 17 = .ok (.iconst 0, 1) := by decide +kernel
theorem dL_types_18 : decode cL_types 18 = .ok (.istore_n 3, 1) := by decide +kernel
theorem dL_types_19 : decode cL_types 19 = .ok (.iconst 0, 1) := by decide +kernel
theorem dL_types_20 : decode cL_types 20 = .ok (.istore 4, 2) := by decide +kernel
theorem dL_types_22 : decode cL_types 22 = .ok (.iload 4, 2) := by decide +kernel
theorem dL_types_24 : decode cL_types 24 = .ok (.iload_n 2, 1) := by decide +kernel
theorem dL_types_25 : decode cL_types 25 = .ok (.if_icmp .ge 309, 3) := by decide +kernel
theorem dL_types_28 : decode cL_types 28 = .ok (.iload_n 1, 1) := by decide +kernel
theorem dL_types_29 : decode cL_types 29 = .ok (.iconst 3, 1) := by decide +kernel
theorem dL_types_30 : decode cL_types 30 = .ok (.iconst 5, 1) := by decide +kernel
theorem dL_types_31 : decode cL_types 31 = .ok (.iload 4, 2) := by decide +kernel
theorem dL_types_33 : decode cL_types 33 = .ok (.imul, 1) := by decide +kernel
theorem dL_types_34 : decode cL_types 34 = .ok (.iadd, 1) := by decide +kernel
theorem dL_types_35 : decode cL_types 35 = .ok (.ishr, 1) := by decide +kernel
theorem dL_types_36 : decode cL_types 36 = .ok (.istore 5, 2) := by decide +kernel
theorem dL_types_38 : decode cL_types 38 = .ok (.iload 5, 2) := by decide +kernel
theorem dL_types_40 : decode cL_types 40 = .ok (.bipush 10, 2) := by decide +kernel
theorem dL_types_42 : decode cL_types 42 = .ok (.invokestatic 36, 3) := by decide +kernel
theorem dL_types_45 : decode cL_types 45 = .ok (.istore 6, 2) := by decide +kernel
theorem dL_types_47 : decode cL_types 47 = .ok (.iload 6, 2) := by decide +kernel
theorem dL_types_49 : decode cL_types 49 = .ok (.iconst 3, 1) := by decide +kernel
theorem dL_types_50 : decode cL_types 50 = .ok (.if_icmp .ge 7, 3) := by decide +kernel
theorem dL_types_53 : decode cL_types 53 = .ok (.iconst 2, 1) := by decide +kernel
theorem dL_types_54 : decode cL_types 54 = .ok (.goto 25, 3) := by decide +kernel
theorem dL_types_57 : decode cL_types 57 = .ok (.iload 6, 2) := by decide +kernel
theorem dL_types_59 : decode cL_types 59 = .ok (.iconst 3, 1) := by decide +kernel
theorem dL_types_60 : decode cL_types 60 = .ok (.if_icmp .ne 7, 3) := by decide +kernel
theorem dL_types_63 : decode cL_types 63 = .ok (.iconst 2, 1) := by decide +kernel
theorem dL_types_64 : decode cL_types 64 = .ok (.goto 15, 3) := by decide +kernel
theorem dL_types_67 : decode cL_types 67 = .ok (.iload 6, 2) := by decide +kernel
theorem dL_types_69 : decode cL_types 69 = .ok (.bipush 8, 2) := by decide +kernel
theorem dL_types_71 : decode cL_types 71 = .ok (.if_icmp .ge 7, 3) := by decide +kernel
theorem dL_types_74 : decode cL_types 74 = .ok (.iconst 4, 1) := by decide +kernel
theorem dL_types_75 : decode cL_types 75 = .ok (.goto 4, 3) := by decide +kernel
theorem dL_types_78 : decode cL_types 78 = .ok (.iconst 0, 1) := by decide +kernel
theorem dL_types_79 : decode cL_types 79 = .ok (.istore 7, 2) := by decide +kernel
theorem dL_types_81 : decode cL_types 81 = .ok (.iload_n 3, 1) := by decide +kernel
theorem dL_types_82 : decode cL_types 82 = .ok (.ifCond .eq 61, 3) := by decide +kernel
theorem dL_types_85 : decode cL_types 85 = .ok (.aload_n 0, 1) := by decide +kernel
theorem dL_types_86 : decode cL_types 86 = .ok (.iload 6, 2) := by decide +kernel
theorem dL_types_88 : decode cL_types 88 = .ok (.iconst 2, 1) := by decide +kernel
theorem dL_types_89 : decode cL_types 89 = .ok (.if_icmp .ge 8, 3) := by decide +kernel
theorem dL_types_92 : decode cL_types 92 = .ok (.bipush 99, 2) := by decide +kernel
theorem dL_types_94 : decode cL_types 94 = .ok (.goto 39, 3) := by decide +kernel
theorem dL_types_97 : decode cL_types 97 = .ok (.iload 6, 2) := by decide +kernel
theorem dL_types_99 : decode cL_types 99 = .ok (.iconst 2, 1) := by decide +kernel
theorem dL_types_100 : decode cL_types 100 = .ok (.if_icmp .ne 8, 3) := by decide +kernel
theorem dL_types_103 : decode cL_types 103 = .ok (.bipush 107, 2) := by decide +kernel
theorem dL_types_105 : decode cL_types 105 = .ok (.goto 28, 3) := by decide +kernel
theorem dL_types_108 : decode cL_types 108 = .ok (.iload 6, 2) := by decide +kernel
theorem dL_types_110 : decode cL_types 110 = .ok (.iconst 3, 1) := by decide +kernel
theorem dL_types_111 : decode cL_types 111 = .ok (.if_icmp .ne 8, 3) := by decide +kernel
theorem dL_types_114 : decode cL_types 114 = .ok (.bipush 119, 2) := by decide +kernel
theorem dL_types_116 : decode cL_types 116 = .ok (.goto 17, 3) := by decide +kernel
theorem dL_types_119 : decode cL_types 119 = .ok (.iload 6, 2) := by decide +kernel
theorem dL_types_121 : decode cL_types 121 = .ok (.bipush 8, 2) := by decide +kernel
theorem dL_types_123 : decode cL_types 123 = .ok (.if_icmp .ge 8, 3) := by decide +kernel
theorem dL_types_126 : decode cL_types 126 = .ok (.bipush 112, 2) := by decide +kernel
theorem dL_types_128 : decode cL_types 128 = .ok (.goto 5, 3) := by decide +kernel
theorem dL_types_131 : decode cL_types 131 = .ok (.bipush 114, 2) := by decide +kernel
theorem dL_types_133 : decode cL_types 133 = .ok (.invokevirtual 33, 3) := by decide +kernel
theorem dL_types_136 : decode cL_types 136 = .ok (.ifCond .le 7, 3) := by decide +kernel
theorem dL_types_139 : decode cL_types 139 = .ok (.iconst 1, 1) := by decide +kernel
theorem dL_types_140 : decode cL_types 140 = .ok (.goto 4, 3) := by decide +kernel
theorem dL_types_143 : decode cL_types 143 = .ok (.iconst 0, 1) := by decide +kernel
theorem dL_types_144 : decode cL_types 144 = .ok (.istore_n 3, 1) := by decide +kernel
theorem dL_types_145 : decode cL_types 145 = .ok (.iconst 0, 1) := by decide +kernel
theorem dL_types_146 : decode cL_types 146 = .ok (.istore 8, 2) := by decide +kernel
theorem dL_types_148 : decode cL_types 148 = .ok (.iload 8, 2) := by decide +kernel
theorem dL_types_150 : decode cL_types 150 = .ok (.iload 7, 2) := by decide +kernel
theorem dL_types_152 : decode cL_types 152 = .ok (.if_icmp .ge 120, 3) := by decide +kernel
theorem dL_types_155 : decode cL_types 155 = .ok (.iload 6, 2) := by decide +kernel
theorem dL_types_157 : decode cL_types 157 = .ok (.iconst 4, 1) := by decide +kernel
theorem dL_types_158 : decode cL_types 158 = .ok (.if_icmp .ge 28, 3) := by decide +kernel
theorem dL_types_161 : decode cL_types 161 = .ok (.iload 8, 2) := by decide +kernel
theorem dL_types_163 : decode cL_types 163 = .ok (.ifCond .ne 8, 3) := by decide +kernel
theorem dL_types_166 : decode cL_types 166 = .ok (.bipush 65, 2) := by decide +kernel
theorem dL_types_168 : decode cL_types 168 = .ok (.goto 51, 3) := by decide +kernel
theorem dL_types_171 : decode cL_types 171 = .ok (.iload 6, 2) := by decide +kernel
theorem dL_types_173 : decode cL_types 173 = .ok (.iconst 2, 1) := by decide +kernel
theorem dL_types_174 : decode cL_types 174 = .ok (.if_icmp .ne 8, 3) := by decide +kernel
theorem dL_types_177 : decode cL_types 177 = .ok (.bipush 10, 2) := by decide +kernel
theorem dL_types_179 : decode cL_types 179 = .ok (.goto 40, 3) := by decide +kernel
theorem dL_types_182 : decode cL_types 182 = .ok (.iconst 4, 1) := by decide +kernel
theorem dL_types_183 : decode cL_types 183 = .ok (.goto 36, 3) := by decide +kernel
theorem dL_types_186 : decode cL_types 186 = .ok (.iload 8, 2) := by decide +kernel
theorem dL_types_188 : decode cL_types 188 = .ok (.ifCond .ne 7, 3) := by decide +kernel
theorem dL_types_191 : decode cL_types 191 = .ok (.iconst 2, 1) := by decide +kernel
theorem dL_types_192 : decode cL_types 192 = .ok (.goto 27, 3) := by decide +kernel
theorem dL_types_195 : decode cL_types 195 = .ok (.iload 8, 2) := by decide +kernel
theorem dL_types_197 : decode cL_types 197 = .ok (.iconst 1, 1) := by decide +kernel
theorem dL_types_198 : decode cL_types 198 = .ok (.if_icmp .ne 7, 3) := by decide +kernel
theorem dL_types_201 : decode cL_types 201 = .ok (.iconst 5, 1) := by decide +kernel
theorem dL_types_202 : decode cL_types 202 = .ok (.goto 17, 3) := by decide +kernel
theorem dL_types_205 : decode cL_types 205 = .ok (.iload 8, 2) := by decide +kernel
theorem dL_types_207 : decode cL_types 207 = .ok (.iconst 2, 1) := by decide +kernel
theorem dL_types_208 : decode cL_types 208 = .ok (.if_icmp .ne 8, 3) := by decide +kernel
theorem dL_types_211 : decode cL_types 211 = .ok (.bipush 8, 2) := by decide +kernel
theorem dL_types_213 : decode cL_types 213 = .ok (.goto 6, 3) := by decide +kernel
theorem dL_types_216 : decode cL_types 216 = .ok (.sipush 900, 3) := by decide +kernel
theorem dL_types_219 : decode cL_types 219 = .ok (.istore 9, 2) := by decide +kernel
theorem dL_types_221 : decode cL_types 221 = .ok (.iload_n 3, 1) := by decide +kernel
theorem dL_types_222 : decode cL_types 222 = .ok (.ifCond .eq 42, 3) := by decide +kernel
theorem dL_types_225 : decode cL_types 225 = .ok (.iload 8, 2) := by decide +kernel
theorem dL_types_227 : decode cL_types 227 = .ok (.ifCond .eq 12, 3) := by decide +kernel
theorem dL_types_230 : decode cL_types 230 = .ok (.aload_n 0, 1) := by decide +kernel
theorem dL_types_231 : decode cL_types 231 = .ok (.bipush 44, 2) := by decide +kernel
theorem dL_types_233 : decode cL_types 233 = .ok (.invokevirtual 33, 3) := by decide +kernel
theorem dL_types_236 : decode cL_types 236 = .ok (.ifCond .le 28, 3) := by decide +kernel
theorem dL_types_239 : decode cL_types 239 = .ok (.aload_n 0, 1) := by decide +kernel
theorem dL_types_240 : decode cL_types 240 = .ok (.iload 5, 2) := by decide +kernel
theorem dL_types_242 : decode cL_types 242 = .ok (.iconst 1, 1) := by decide +kernel
theorem dL_types_243 : decode cL_types 243 = .ok (.iconst 3, 1) := by decide +kernel
theorem dL_types_244 : decode cL_types 244 = .ok (.iload 8, 2) := by decide +kernel
theorem dL_types_246 : decode cL_types 246 = .ok (.imul, 1) := by decide +kernel
theorem dL_types_247 : decode cL_types 247 = .ok (.iadd, 1) := by decide +kernel
theorem dL_types_248 : decode cL_types 248 = .ok (.ishr, 1) := by decide +kernel
theorem dL_types_249 : decode cL_types 249 = .ok (.iload 9, 2) := by decide +kernel
theorem dL_types_251 : decode cL_types 251 = .ok (.invokestatic 36, 3) := by decide +kernel
theorem dL_types_254 : decode cL_types 254 = .ok (.invokestatic 43, 3) := by decide +kernel
theorem dL_types_257 : decode cL_types 257 = .ok (.ifCond .eq 7, 3) := by decide +kernel
theorem dL_types_260 : decode cL_types 260 = .ok (.iconst 1, 1) := by decide +kernel
theorem dL_types_261 : decode cL_types 261 = .ok (.goto 4, 3) := by decide +kernel
theorem dL_types_264 : decode cL_types 264 = .ok (.iconst 0, 1) := by decide +kernel
theorem dL_types_265 : decode cL_types 265 = .ok (.istore_n 3, 1) := by decide +kernel
theorem dL_types_266 : decode cL_types 266 = .ok (.iinc 8 1, 3) := by decide +kernel
theorem dL_types_269 : decode cL_types 269 = .ok (.goto (-121), 3) := by decide +kernel
theorem dL_types_272 : decode cL_types 272 = .ok (.iload_n 3, 1) := by decide +kernel
theorem dL_types_273 : decode cL_types 273 = .ok (.ifCond .eq 53, 3) := by decide +kernel
theorem dL_types_276 : decode cL_types 276 = .ok (.iload_n 1, 1) := by decide +kernel
theorem dL_types_277 : decode cL_types 277 = .ok (.bipush 24, 2) := by decide +kernel
theorem dL_types_279 : decode cL_types 279 = .ok (.ishr, 1) := by decide +kernel
theorem dL_types_280 : decode cL_types 280 = .ok (.bipush 6, 2) := by decide +kernel
theorem dL_types_282 : decode cL_types 282 = .ok (.invokestatic 36, 3) := by decide +kernel
theorem dL_types_285 : decode cL_types 285 = .ok (.ifCond .ne 11, 3) := by decide +kernel
theorem dL_types_288 : decode cL_types 288 = .ok (.iload 4, 2) := by decide +kernel
theorem dL_types_290 : decode cL_types 290 = .ok (.iload_n 2, 1) := by decide +kernel
theorem dL_types_291 : decode cL_types 291 = .ok (.iconst 1, 1) := by decide +kernel
theorem dL_types_292 : decode cL_types 292 = .ok (.isub, 1) := by decide +kernel
theorem dL_types_293 : decode cL_types 293 = .ok (.if_icmp .eq 29, 3) := by decide +kernel
theorem dL_types_296 : decode cL_types 296 = .ok (.aload_n 0, 1) := by decide +kernel
theorem dL_types_297 : decode cL_types 297 = .ok (.iload_n 1, 1) := by decide +kernel
theorem dL_types_298 : decode cL_types 298 = .ok (.bipush 20, 2) := by decide +kernel
theorem dL_types_300 : decode cL_types 300 = .ok (.ishr, 1) := by decide +kernel
theorem dL_types_301 : decode cL_types 301 = .ok (.bipush 11, 2) := by decide +kernel
theorem dL_types_303 : decode cL_types 303 = .ok (.invokestatic 36, 3) := by decide +kernel
theorem dL_types_306 : decode cL_types 306 = .ok (.ifCond .ne 8, 3) := by decide +kernel
theorem dL_types_309 : decode cL_types 309 = .ok (.bipush 46, 2) := by decide +kernel
theorem dL_types_311 : decode cL_types 311 = .ok (.goto 5, 3) := by decide +kernel
theorem dL_types_314 : decode cL_types 314 = .ok (.bipush 59, 2) := by decide +kernel
theorem dL_types_316 : decode cL_types 316 = .ok (.invokevirtual 33, 3) := by decide +kernel
theorem dL_types_319 : decode cL_types 319 = .ok (.ifCond .le 7, 3) := by decide +kernel
theorem dL_types_322 : decode cL_types 322 = .ok (.iconst 1, 1) := by decide +kernel
theorem dL_types_323 : decode cL_types 323 = .ok (.goto 4, 3) := by decide +kernel
theorem dL_types_326 : decode cL_types 326 = .ok (.iconst 0, 1) := by decide +kernel
theorem dL_types_327 : decode cL_types 327 = .ok (.istore_n 3, 1) := by decide +kernel
theorem dL_types_328 : decode cL_types 328 = .ok (.iinc 4 1, 3) := by decide +kernel
theorem dL_types_331 : decode cL_types 331 = .ok (.goto (-309), 3) := by decide +kernel
theorem dL_types_334 : decode cL_types 334 = .ok (.iload_n 3, 1) := by decide +kernel
theorem dL_types_335 : decode cL_types 335 = .ok (.ireturn, 1) := by decide +kernel
theorem dL_reads_0 : decode cL_reads 0 = .ok (.aload_n 0, 1) := by decide +kernel
theorem dL_reads_1 : decode cL_reads 1 = .ok (.iconst 0, 1) := by decide +kernel
theorem dL_reads_2 : decode cL_reads 2 = .ok (.invokevirtual 47, 3) := by decide +kernel
theorem dL_reads_5 : decode cL_reads 5 = .ok (.istore_n 1, 1) := by decide +kernel
theorem dL_reads_6 : decode cL_reads 6 = .ok (.aload_n 0, 1) := by decide +kernel
theorem dL_reads_7 : decode cL_reads 7 = .ok (.iconst 1, 1) := by decide +kernel
theorem dL_reads_8 : decode cL_reads 8 = .ok (.invokevirtual 47, 3) := by decide +kernel
theorem dL_reads_11 : decode cL_reads 11 = .ok (.istore_n 2, 1) := by decide +kernel
theorem dL_reads_12 : decode cL_reads 12 = .ok (.aload_n 0, 1) := by decide +kernel
theorem dL_reads_13 : decode cL_reads 13 = .ok (.iconst 2, 1) := by decide +kernel
theorem dL_reads_14 : decode cL_reads 14 = .ok (.invokevirtual 47, 3) := by decide +kernel
theorem dL_reads_17 : decode cL_reads 17 = .ok (.istore_n 3, 1) := by decide +kernel
theorem dL_reads_18 : decode cL_reads 18 = .ok (.aload_n 0, 1) := by decide +kernel
theorem dL_reads_19 : decode cL_reads 19 = .ok (.bipush 8, 2) := by decide +kernel
theorem dL_reads_21 : decode cL_reads 21 = .ok (.invokevirtual 13, 3) := by decide +kernel
theorem dL_reads_24 : decode cL_reads 24 = .ok (.istore 4, 2) := by decide +kernel
theorem dL_reads_26 : decode cL_reads 26 = .ok (.aload_n 0, 1) := by decide +kernel
theorem dL_reads_27 : decode cL_reads 27 = .ok (.invokevirtual 50, 3) := by decide +kernel
theorem dL_reads_30 : decode cL_reads 30 = .ok (.istore 5, 2) := by decide +kernel
theorem dL_reads_32 : decode cL_reads 32 = .ok (.iload_n 1, 1) := by decide +kernel
theorem dL_reads_33 : decode cL_reads 33 = .ok (.ldc 32, 2) := by decide +kernel
theorem dL_reads_35 : decode cL_reads 35 = .ok (.if_icmp .ne 33, 3) := by decide +kernel
theorem dL_reads_38 : decode cL_reads 38 = .ok (.iload_n 2, 1) := by decide +kernel
theorem dL_reads_39 : decode cL_reads 39 = .ok (.ldc 32, 2) := by decide +kernel
theorem dL_reads_41 : decode cL_reads 41 = .ok (.if_icmp .ne 27, 3) := by decide +kernel
theorem dL_reads_44 : decode cL_reads 44 = .ok (.iload_n 3, 1) := by decide +kernel
theorem dL_reads_45 : decode cL_reads 45 = .ok (.ldc 32, 2) := by decide +kernel
theorem dL_reads_47 : decode cL_reads 47 = .ok (.if_icmp .ne 21, 3) := by decide +kernel
theorem dL_reads_50 : decode cL_reads 50 = .ok (.iload 5, 2) := by decide +kernel
theorem dL_reads_52 : decode cL_reads 52 = .ok (.ifCond .lt 16, 3) := by decide +kernel
theorem dL_reads_55 : decode cL_reads 55 = .ok (.iconst 2, 1) := by decide +kernel
theorem dL_reads_56 : decode cL_reads 56 = .ok (.iload 5, 2) := by decide +kernel
theorem dL_reads_58 : decode cL_reads 58 = .ok (.imul, 1) := by decide +kernel
theorem dL_reads_59 : decode cL_reads 59 = .ok (.iload 4, 2) := by decide +kernel
theorem dL_reads_61 : decode cL_reads 61 = .ok (.if_icmp .gt 7, 3) := by decide +kernel
theorem dL_reads_64 : decode cL_reads 64 = .ok (.iconst 1, 1) := by decide +kernel
theorem dL_reads_65 : decode cL_reads 65 = .ok (.goto 4, 3) := by decide +kernel
theorem dL_reads_68 : decode cL_reads 68 = .ok (.iconst 0, 1) := by decide +kernel
theorem dL_reads_69 : decode cL_reads 69 = .ok (.istore 6, 2) := by decide +kernel
theorem dL_reads_71 : decode cL_reads 71 = .ok (.iload_n 1, 1) := by decide +kernel
theorem dL_reads_72 : decode cL_reads 72 = .ok (.ifCond .lt 54, 3) := by decide +kernel
theorem dL_reads_75 : decode cL_reads 75 = .ok (.iload_n 1, 1) := by decide +kernel
theorem dL_reads_76 : decode cL_reads 76 = .ok (.iload 4, 2) := by decide +kernel
theorem dL_reads_78 : decode cL_reads 78 = .ok (.if_icmp .ge 48, 3) := by decide +kernel
theorem dL_reads_81 : decode cL_reads 81 = .ok (.iload 5, 2) := by decide +kernel
theorem dL_reads_83 : decode cL_reads 83 = .ok (.ldc 53, 2) := by decide +kernel
theorem dL_reads_85 : decode cL_reads 85 = .ok (.if_icmp .ne 41, 3) := by decide +kernel
theorem dL_reads_88 : decode cL_reads 88 = .ok (.iload_n 2, 1) := by decide +kernel
theorem dL_reads_89 : decode cL_reads 89 = .ok (.iconst 1, 1) := by decide +kernel
theorem dL_reads_90 : decode cL_reads 90 = .ok (.if_icmp .ne 15, 3) := by decide +kernel
theorem dL_reads_93 : decode cL_reads 93 = .ok (.iload_n 3, 1) := by decide +kernel
theorem dL_reads_94 : decode cL_reads 94 = .ok (.ifCond .lt 11, 3) := by decide +kernel
theorem dL_reads_97 : decode cL_reads 97 = .ok (.iload_n 1, 1) := by decide +kernel
theorem dL_reads_98 : decode cL_reads 98 = .ok (.iload_n 3, 1) := by decide +kernel
theorem dL_reads_99 : decode cL_reads 99 = .ok (.iadd, 1) := by decide +kernel
theorem dL_reads_100 : decode cL_reads 100 = .ok (.iload 4, 2) := by decide +kernel
theorem dL_reads_102 : decode cL_reads 102 = .ok (.if_icmp .le 20, 3) := by decide +kernel
theorem dL_reads_105 : decode cL_reads 105 = .ok (.iload_n 2, 1) := by decide +kernel
theorem dL_reads_106 : decode cL_reads 106 = .ok (.iconst 2, 1) := by decide +kernel
theorem dL_reads_107 : decode cL_reads 107 = .ok (.if_icmp .ne 19, 3) := by decide +kernel
theorem dL_reads_110 : decode cL_reads 110 = .ok (.iload_n 3, 1) := by decide +kernel
theorem dL_reads_111 : decode cL_reads 111 = .ok (.ldc 54, 2) := by decide +kernel
theorem dL_reads_113 : decode cL_reads 113 = .ok (.if_icmp .gt 13, 3) := by decide +kernel
theorem dL_reads_116 : decode cL_reads 116 = .ok (.iload_n 3, 1) := by decide +kernel
theorem dL_reads_117 : decode cL_reads 117 = .ok (.ldc 32, 2) := by decide +kernel
theorem dL_reads_119 : decode cL_reads 119 = .ok (.if_icmp .le 7, 3) := by decide +kernel
theorem dL_reads_122 : decode cL_reads 122 = .ok (.iconst 1, 1) := by decide +kernel
theorem dL_reads_123 : decode cL_reads 123 = .ok (.goto 4, 3) := by decide +kernel
theorem dL_reads_126 : decode cL_reads 126 = .ok (.iconst 0, 1) := by decide +kernel
theorem dL_reads_127 : decode cL_reads 127 = .ok (.istore 7, 2) := by decide +kernel
theorem dL_reads_129 : decode cL_reads 129 = .ok (.iload 6, 2) := by decide +kernel
theorem dL_reads_131 : decode cL_reads 131 = .ok (.ifCond .ne 8, 3) := by decide +kernel
theorem dL_reads_134 : decode cL_reads 134 = .ok (.iload 7, 2) := by decide +kernel
theorem dL_reads_136 : decode cL_reads 136 = .ok (.ifCond .eq 18, 3) := by decide +kernel
theorem dL_reads_139 : decode cL_reads 139 = .ok (.aload_n 0, 1) := by decide +kernel
theorem dL_reads_140 : decode cL_reads 140 = .ok (.bipush 8, 2) := by decide +kernel
theorem dL_reads_142 : decode cL_reads 142 = .ok (.invokevirtual 13, 3) := by decide +kernel
theorem dL_reads_145 : decode cL_reads 145 = .ok (.iload 4, 2) := by decide +kernel
theorem dL_reads_147 : decode cL_reads 147 = .ok (.if_icmp .ne 7, 3) := by decide +kernel
theorem dL_reads_150 : decode cL_reads 150 = .ok (.iconst 1, 1) := by decide +kernel
theorem dL_reads_151 : decode cL_reads 151 = .ok (.goto 4, 3) := by decide +kernel
theorem dL_reads_154 : decode cL_reads 154 = .ok (.iconst 0, 1) := by decide +kernel
theorem dL_reads_155 : decode cL_reads 155 = .ok (.ireturn, 1) := by decide +kernel
theorem dL_acts_0 : decode cL_acts 0 = .ok (.iload_n 1, 1) := by decide +kernel
theorem dL_acts_1 : decode cL_acts 1 = .ok (.bipush 20, 2) := by decide +kernel
theorem dL_acts_3 : decode cL_acts 3 = .ok (.invokestatic 36, 3) := by decide +kernel
theorem dL_acts_6 : decode cL_acts 6 = .ok (.istore_n 3, 1) := by decide +kernel
theorem dL_acts_7 : decode cL_acts 7 = .ok (.aload_n 0, 1) := by decide +kernel
theorem dL_acts_8 : decode cL_acts 8 = .ok (.iconst 0, 1) := by decide +kernel
theorem dL_acts_9 : decode cL_acts 9 = .ok (.invokevirtual 13, 3) := by decide +kernel
theorem dL_acts_12 : decode cL_acts 12 = .ok (.istore 4, 2) := by decide +kernel
theorem dL_acts_14 : decode cL_acts 14 = .ok (.iload_n 1, 1) := by decide +kernel
theorem dL_acts_15 : decode cL_acts 15 = .ok (.iconst 5, 1) := by decide +kernel
theorem dL_acts_16 : decode cL_acts 16 = .ok (.ishr, 1) := by decide +kernel
theorem dL_acts_17 : decode cL_acts 17 = .ok (.iload 4, 2) := by decide +kernel
theorem dL_acts_19 : decode cL_acts 19 = .ok (.iconst 1, 1) := by decide +kernel
theorem dL_acts_20 : decode cL_acts 20 = .ok (.iadd, 1) := by decide +kernel
theorem dL_acts_21 : decode cL_acts 21 = .ok (.invokestatic 36, 3) := by decide +kernel
theorem dL_acts_24 : decode cL_acts 24 = .ok (.istore 5, 2) := by decide +kernel
theorem dL_acts_26 : decode cL_acts 26 = .ok (.iload_n 2, 1) := by decide +kernel
theorem dL_acts_27 : decode cL_acts 27 = .ok (.bipush 66, 2) := by decide +kernel
theorem dL_acts_29 : decode cL_acts 29 = .ok (.invokestatic 36, 3) := by decide +kernel
theorem dL_acts_32 : decode cL_acts 32 = .ok (.istore 6, 2) := by decide +kernel
theorem dL_acts_34 : decode cL_acts 34 = .ok (.iload 6, 2) := by decide +kernel
theorem dL_acts_36 : decode cL_acts 36 = .ok (.bipush 63, 2) := by decide +kernel
theorem dL_acts_38 : decode cL_acts 38 = .ok (.if_icmp .le 7, 3) := by decide +kernel
theorem dL_acts_41 : decode cL_acts 41 = .ok (.iconst 1, 1) := by decide +kernel
theorem dL_acts_42 : decode cL_acts 42 = .ok (.goto 4, 3) := by decide +kernel
theorem dL_acts_45 : decode cL_acts 45 = .ok (.iconst 0, 1) := by decide +kernel
theorem dL_acts_46 : decode cL_acts 46 = .ok (.istore 7, 2) := by decide +kernel
theorem dL_acts_48 : decode cL_acts 48 = .ok (.iload 7, 2) := by decide +kernel
theorem dL_acts_50 : decode cL_acts 50 = .ok (.ifCond .eq 7, 3) := by decide +kernel
theorem dL_acts_53 : decode cL_acts 53 = .ok (.iconst 0, 1) := by decide +kernel
theorem dL_acts_54 : decode cL_acts 54 = .ok (.goto 5, 3) := by decide +kernel
theorem dL_acts_57 : decode cL_acts 57 = .ok (.iload 6, 2) := by decide +kernel
theorem dL_acts_59 : decode cL_acts 59 = .ok (.istore 8, 2) := by decide +kernel
theorem dL_acts_61 : decode cL_acts 61 = .ok (.iload_n 3, 1) := by decide +kernel
theorem dL_acts_62 : decode cL_acts 62 = .ok (.iconst 3, 1) := by decide +kernel
theorem dL_acts_63 : decode cL_acts 63 = .ok (.if_icmp .ge 112, 3) := by decide +kernel
theorem dL_acts_66 : decode cL_acts 66 = .ok (.iload_n 2, 1) := by decide +kernel
theorem dL_acts_67 : decode cL_acts 67 = .ok (.bipush 7, 2) := by decide +kernel
theorem dL_acts_69 : decode cL_acts 69 = .ok (.ishr, 1) := by decide +kernel
theorem dL_acts_70 : decode cL_acts 70 = .ok (.iconst 5, 1) := by decide +kernel
theorem dL_acts_71 : decode cL_acts 71 = .ok (.invokestatic 36, 3) := by decide +kernel
theorem dL_acts_74 : decode cL_acts 74 = .ok (.istore 9, 2) := by decide +kernel
theorem dL_acts_76 : decode cL_acts 76 = .ok (.iload 7, 2) := by decide +kernel
theorem dL_acts_78 : decode cL_acts 78 = .ok (.ifCond .ne 9, 3) := by decide +kernel
theorem dL_acts_81 : decode cL_acts 81 = .ok (.iload 9, 2) := by decide +kernel
theorem dL_acts_83 : decode cL_acts 83 = .ok (.iconst 4, 1) := by decide +kernel
theorem dL_acts_84 : decode cL_acts 84 = .ok (.if_icmp .ne 7, 3) := by decide +kernel
theorem dL_acts_87 : decode cL_acts 87 = .ok (.iconst 1, 1) := by decide +kernel
theorem dL_acts_88 : decode cL_acts 88 = .ok (.goto 4, 3) := by decide +kernel
theorem dL_acts_91 : decode cL_acts 91 = .ok (.iconst 0, 1) := by decide +kernel
theorem dL_acts_92 : decode cL_acts 92 = .ok (.istore 10, 2) := by decide +kernel
theorem dL_acts_94 : decode cL_acts 94 = .ok (.aload_n 0, 1) := by decide +kernel
theorem dL_acts_95 : decode cL_acts 95 = .ok (.iload 8, 2) := by decide +kernel
theorem dL_acts_97 : decode cL_acts 97 = .ok (.iconst 2, 1) := by decide +kernel
theorem dL_acts_98 : decode cL_acts 98 = .ok (.invokevirtual 19, 3) := by decide +kernel
theorem dL_acts_101 : decode cL_acts 101 = .ok (.ldc 32, 2) := by decide +kernel
theorem dL_acts_103 : decode cL_acts 103 = .ok (.if_icmp .ne 15, 3) := by decide +kernel
theorem dL_acts_106 : decode cL_acts 106 = .ok (.aload_n 0, 1) := by decide +kernel
theorem dL_acts_107 : decode cL_acts 107 = .ok (.iload 8, 2) := by decide +kernel
theorem dL_acts_109 : decode cL_acts 109 = .ok (.iconst 0, 1) := by decide +kernel
theorem dL_acts_110 : decode cL_acts 110 = .ok (.invokevirtual 19, 3) := by decide +kernel
theorem dL_acts_113 : decode cL_acts 113 = .ok (.bipush 7, 2) := by decide +kernel
theorem dL_acts_115 : decode cL_acts 115 = .ok (.if_icmp .ne 7, 3) := by decide +kernel
theorem dL_acts_118 : decode cL_acts 118 = .ok (.iconst 1, 1) := by decide +kernel
theorem dL_acts_119 : decode cL_acts 119 = .ok (.goto 4, 3) := by decide +kernel
theorem dL_acts_122 : decode cL_acts 122 = .ok (.iconst 0, 1) := by decide +kernel
theorem dL_acts_123 : decode cL_acts 123 = .ok (.istore 11, 2) := by decide +kernel
theorem dL_acts_125 : decode cL_acts 125 = .ok (.aload_n 0, 1) := by decide +kernel
theorem dL_acts_126 : decode cL_acts 126 = .ok (.iload 6, 2) := by decide +kernel
theorem dL_acts_128 : decode cL_acts 128 = .ok (.iload 9, 2) := by decide +kernel
theorem dL_acts_130 : decode cL_acts 130 = .ok (.invokevirtual 55, 3) := by decide +kernel
theorem dL_acts_133 : decode cL_acts 133 = .ok (.iload 10, 2) := by decide +kernel
theorem dL_acts_135 : decode cL_acts 135 = .ok (.ifCond .eq 8, 3) := by decide +kernel
theorem dL_acts_138 : decode cL_acts 138 = .ok (.ldc 54, 2) := by decide +kernel
theorem dL_acts_140 : decode cL_acts 140 = .ok (.goto 26, 3) := by decide +kernel
theorem dL_acts_143 : decode cL_acts 143 = .ok (.iload 11, 2) := by decide +kernel
theorem dL_acts_145 : decode cL_acts 145 = .ok (.ifCond .eq 8, 3) := by decide +kernel
theorem dL_acts_148 : decode cL_acts 148 = .ok (.ldc 53, 2) := by decide +kernel
theorem dL_acts_150 : decode cL_acts 150 = .ok (.goto 16, 3) := by decide +kernel
theorem dL_acts_153 : decode cL_acts 153 = .ok (.iload 4, 2) := by decide +kernel
theorem dL_acts_155 : decode cL_acts 155 = .ok (.iconst 4, 1) := by decide +kernel
theorem dL_acts_156 : decode cL_acts 156 = .ok (.if_icmp .ne 8, 3) := by decide +kernel
theorem dL_acts_159 : decode cL_acts 159 = .ok (.ldc 58, 2) := by decide +kernel
theorem dL_acts_161 : decode cL_acts 161 = .ok (.goto 5, 3) := by decide +kernel
theorem dL_acts_164 : decode cL_acts 164 = .ok (.iload 4, 2) := by decide +kernel
theorem dL_acts_166 : decode cL_acts 166 = .ok (.if_icmp .ne 7, 3) := by decide +kernel
theorem dL_acts_169 : decode cL_acts 169 = .ok (.iconst 1, 1) := by decide +kernel
theorem dL_acts_170 : decode cL_acts 170 = .ok (.goto 4, 3) := by decide +kernel
theorem dL_acts_173 : decode cL_acts 173 = .ok (.iconst 0, 1) := by decide +kernel
theorem dL_acts_174 : decode cL_acts 174 = .ok (.ireturn, 1) := by decide +kernel
theorem dL_acts_175 : decode cL_acts 175 = .ok (.iload_n 3, 1) := by decide +kernel
theorem dL_acts_176 : decode cL_acts 176 = .ok (.bipush 6, 2) := by decide +kernel
theorem dL_acts_178 : decode cL_acts 178 = .ok (.if_icmp .ge 95, 3) := by decide +kernel
theorem dL_acts_181 : decode cL_acts 181 = .ok (.iload_n 2, 1) := by decide +kernel
theorem dL_acts_182 : decode cL_acts 182 = .ok (.bipush 7, 2) := by decide +kernel
theorem dL_acts_184 : decode cL_acts 184 = .ok (.ishr, 1) := by decide +kernel
theorem dL_acts_185 : decode cL_acts 185 = .ok (.bipush 10, 2) := by decide +kernel
theorem dL_acts_187 : decode cL_acts 187 = .ok (.invokestatic 36, 3) := by decide +kernel
theorem dL_acts_190 : decode cL_acts 190 = .ok (.istore 9, 2) := by decide +kernel
theorem dL_acts_192 : decode cL_acts 192 = .ok (.aload_n 0, 1) := by decide +kernel
theorem dL_acts_193 : decode cL_acts 193 = .ok (.iload 8, 2) := by decide +kernel
theorem dL_acts_195 : decode cL_acts 195 = .ok (.iconst 0, 1) := by decide +kernel
theorem dL_acts_196 : decode cL_acts 196 = .ok (.invokevirtual 19, 3) := by decide +kernel
theorem dL_acts_199 : decode cL_acts 199 = .ok (.istore 10, 2) := by decide +kernel
theorem dL_acts_201 : decode cL_acts 201 = .ok (.aload_n 0, 1) := by decide +kernel
theorem dL_acts_202 : decode cL_acts 202 = .ok (.iload 8, 2) := by decide +kernel
theorem dL_acts_204 : decode cL_acts 204 = .ok (.iconst 2, 1) := by decide +kernel
theorem dL_acts_205 : decode cL_acts 205 = .ok (.invokevirtual 19, 3) := by decide +kernel
theorem dL_acts_208 : decode cL_acts 208 = .ok (.ldc 32, 2) := by decide +kernel
theorem dL_acts_210 : decode cL_acts 210 = .ok (.if_icmp .eq 7, 3) := by decide +kernel
theorem dL_acts_213 : decode cL_acts 213 = .ok (.iconst 1, 1) := by decide +kernel
theorem dL_acts_214 : decode cL_acts 214 = .ok (.goto 4, 3) := by decide +kernel
theorem dL_acts_217 : decode cL_acts 217 = .ok (.iconst 0, 1) := by decide +kernel
theorem dL_acts_218 : decode cL_acts 218 = .ok (.istore 11, 2) := by decide +kernel
theorem dL_acts_220 : decode cL_acts 220 = .ok (.aload_n 0, 1) := by decide +kernel
theorem dL_acts_221 : decode cL_acts 221 = .ok (.iload 6, 2) := by decide +kernel
theorem dL_acts_223 : decode cL_acts 223 = .ok (.iload 9, 2) := by decide +kernel
theorem dL_acts_225 : decode cL_acts 225 = .ok (.invokevirtual 59, 3) := by decide +kernel
theorem dL_acts_228 : decode cL_acts 228 = .ok (.iload 7, 2) := by decide +kernel
theorem dL_acts_230 : decode cL_acts 230 = .ok (.ifCond .ne 10, 3) := by decide +kernel
theorem dL_acts_233 : decode cL_acts 233 = .ok (.iload 9, 2) := by decide +kernel
theorem dL_acts_235 : decode cL_acts 235 = .ok (.bipush 9, 2) := by decide +kernel
theorem dL_acts_237 : decode cL_acts 237 = .ok (.if_icmp .ne 8, 3) := by decide +kernel
theorem dL_acts_240 : decode cL_acts 240 = .ok (.ldc 54, 2) := by decide +kernel
theorem dL_acts_242 : decode cL_acts 242 = .ok (.goto 22, 3) := by decide +kernel
theorem dL_acts_245 : decode cL_acts 245 = .ok (.iload 9, 2) := by decide +kernel
theorem dL_acts_247 : decode cL_acts 247 = .ok (.bipush 7, 2) := by decide +kernel
theorem dL_acts_249 : decode cL_acts 249 = .ok (.if_icmp .ne 13, 3) := by decide +kernel
theorem dL_acts_252 : decode cL_acts 252 = .ok (.iload 11, 2) := by decide +kernel
theorem dL_acts_254 : decode cL_acts 254 = .ok (.ifCond .eq 8, 3) := by decide +kernel
theorem dL_acts_257 : decode cL_acts 257 = .ok (.ldc 53, 2) := by decide +kernel
theorem dL_acts_259 : decode cL_acts 259 = .ok (.goto 5, 3) := by decide +kernel
theorem dL_acts_262 : decode cL_acts 262 = .ok (.iload 10, 2) := by decide +kernel
theorem dL_acts_264 : decode cL_acts 264 = .ok (.if_icmp .ne 7, 3) := by decide +kernel
theorem dL_acts_267 : decode cL_acts 267 = .ok (.iconst 1, 1) := by decide +kernel
theorem dL_acts_268 : decode cL_acts 268 = .ok (.goto 4, 3) := by decide +kernel
theorem dL_acts_271 : decode cL_acts 271 = .ok (.iconst 0, 1) := by decide +kernel
theorem dL_acts_272 : decode cL_acts 272 = .ok (.ireturn, 1) := by decide +kernel
theorem dL_acts_273 : decode cL_acts 273 = .ok (.iload_n 3, 1) := by decide +kernel
theorem dL_acts_274 : decode cL_acts 274 = .ok (.bipush 6, 2) := by decide +kernel
theorem dL_acts_276 : decode cL_acts 276 = .ok (.if_icmp .ne 64, 3) := by decide +kernel
theorem dL_acts_279 : decode cL_acts 279 = .ok (.iload_n 2, 1) := by decide +kernel
theorem dL_acts_280 : decode cL_acts 280 = .ok (.bipush 7, 2) := by decide +kernel
theorem dL_acts_282 : decode cL_acts 282 = .ok (.ishr, 1) := by decide +kernel
theorem dL_acts_283 : decode cL_acts 283 = .ok (.iconst 5, 1) := by decide +kernel
theorem dL_acts_284 : decode cL_acts 284 = .ok (.invokestatic 36, 3) := by decide +kernel
theorem dL_acts_287 : decode cL_acts 287 = .ok (.istore 9, 2) := by decide +kernel
theorem dL_acts_289 : decode cL_acts 289 = .ok (.aload_n 0, 1) := by decide +kernel
theorem dL_acts_290 : decode cL_acts 290 = .ok (.iload 8, 2) := by decide +kernel
theorem dL_acts_292 : decode cL_acts 292 = .ok (.iconst 1, 1) := by decide +kernel
theorem dL_acts_293 : decode cL_acts 293 = .ok (.invokevirtual 19, 3) := by decide +kernel
theorem dL_acts_296 : decode cL_acts 296 = .ok (.istore 10, 2) := by decide +kernel
theorem dL_acts_298 : decode cL_acts 298 = .ok (.aload_n 0, 1) := by decide +kernel
theorem dL_acts_299 : decode cL_acts 299 = .ok (.iload 6, 2) := by decide +kernel
theorem dL_acts_301 : decode cL_acts 301 = .ok (.iload 9, 2) := by decide +kernel
theorem dL_acts_303 : decode cL_acts 303 = .ok (.invokevirtual 62, 3) := by decide +kernel
theorem dL_acts_306 : decode cL_acts 306 = .ok (.iload 7, 2) := by decide +kernel
theorem dL_acts_308 : decode cL_acts 308 = .ok (.ifCond .ne 9, 3) := by decide +kernel
theorem dL_acts_311 : decode cL_acts 311 = .ok (.iload 9, 2) := by decide +kernel
theorem dL_acts_313 : decode cL_acts 313 = .ok (.iconst 4, 1) := by decide +kernel
theorem dL_acts_314 : decode cL_acts 314 = .ok (.if_icmp .ne 8, 3) := by decide +kernel
theorem dL_acts_317 : decode cL_acts 317 = .ok (.ldc 54, 2) := by decide +kernel
theorem dL_acts_319 : decode cL_acts 319 = .ok (.goto 12, 3) := by decide +kernel
theorem dL_acts_322 : decode cL_acts 322 = .ok (.iconst 1, 1) := by decide +kernel
theorem dL_acts_323 : decode cL_acts 323 = .ok (.iload 10, 2) := by decide +kernel
theorem dL_acts_325 : decode cL_acts 325 = .ok (.iload 9, 2) := by decide +kernel
theorem dL_acts_327 : decode cL_acts 327 = .ok (.ishr, 1) := by decide +kernel
theorem dL_acts_328 : decode cL_acts 328 = .ok (.iconst 1, 1) := by decide +kernel
theorem dL_acts_329 : decode cL_acts 329 = .ok (.iand, 1) := by decide +kernel
theorem dL_acts_330 : decode cL_acts 330 = .ok (.isub, 1) := by decide +kernel
theorem dL_acts_331 : decode cL_acts 331 = .ok (.if_icmp .ne 7, 3) := by decide +kernel
theorem dL_acts_334 : decode cL_acts 334 = .ok (.iconst 1, 1) := by decide +kernel
theorem dL_acts_335 : decode cL_acts 335 = .ok (.goto 4, 3) := by decide +kernel
theorem dL_acts_338 : decode cL_acts 338 = .ok (.iconst 0, 1) := by decide +kernel
theorem dL_acts_339 : decode cL_acts 339 = .ok (.ireturn, 1) := by decide +kernel
theorem dL_acts_340 : decode cL_acts 340 = .ok (.iload_n 3, 1) := by decide +kernel
theorem dL_acts_341 : decode cL_acts 341 = .ok (.bipush 7, 2) := by decide +kernel
theorem dL_acts_343 : decode cL_acts 343 = .ok (.if_icmp .ne 81, 3) := by decide +kernel
theorem dL_acts_346 : decode cL_acts 346 = .ok (.iload_n 2, 1) := by decide +kernel
theorem dL_acts_347 : decode cL_acts 347 = .ok (.bipush 7, 2) := by decide +kernel
theorem dL_acts_349 : decode cL_acts 349 = .ok (.ishr, 1) := by decide +kernel
theorem dL_acts_350 : decode cL_acts 350 = .ok (.iconst 5, 1) := by decide +kernel
theorem dL_acts_351 : decode cL_acts 351 = .ok (.invokestatic 36, 3) := by decide +kernel
theorem dL_acts_354 : decode cL_acts 354 = .ok (.istore 9, 2) := by decide +kernel
theorem dL_acts_356 : decode cL_acts 356 = .ok (.aload_n 0, 1) := by decide +kernel
theorem dL_acts_357 : decode cL_acts 357 = .ok (.iconst 3, 1) := by decide +kernel
theorem dL_acts_358 : decode cL_acts 358 = .ok (.invokevirtual 13, 3) := by decide +kernel
theorem dL_acts_361 : decode cL_acts 361 = .ok (.istore 10, 2) := by decide +kernel
theorem dL_acts_363 : decode cL_acts 363 = .ok (.aload_n 0, 1) := by decide +kernel
theorem dL_acts_364 : decode cL_acts 364 = .ok (.iload 9, 2) := by decide +kernel
theorem dL_acts_366 : decode cL_acts 366 = .ok (.iload 6, 2) := by decide +kernel
theorem dL_acts_368 : decode cL_acts 368 = .ok (.invokevirtual 65, 3) := by decide +kernel
theorem dL_acts_371 : decode cL_acts 371 = .ok (.iload 7, 2) := by decide +kernel
theorem dL_acts_373 : decode cL_acts 373 = .ok (.ifCond .ne 9, 3) := by decide +kernel
theorem dL_acts_376 : decode cL_acts 376 = .ok (.iload 9, 2) := by decide +kernel
theorem dL_acts_378 : decode cL_acts 378 = .ok (.iconst 4, 1) := by decide +kernel
theorem dL_acts_379 : decode cL_acts 379 = .ok (.if_icmp .ne 8, 3) := by decide +kernel
theorem dL_acts_382 : decode cL_acts 382 = .ok (.ldc 54, 2) := by decide +kernel
theorem dL_acts_384 : decode cL_acts 384 = .ok (.goto 31, 3) := by decide +kernel
theorem dL_acts_387 : decode cL_acts 387 = .ok (.iload 9, 2) := by decide +kernel
theorem dL_acts_389 : decode cL_acts 389 = .ok (.iload 10, 2) := by decide +kernel
theorem dL_acts_391 : decode cL_acts 391 = .ok (.if_icmp .le 8, 3) := by decide +kernel
theorem dL_acts_394 : decode cL_acts 394 = .ok (.ldc 53, 2) := by decide +kernel
theorem dL_acts_396 : decode cL_acts 396 = .ok (.goto 19, 3) := by decide +kernel
theorem dL_acts_399 : decode cL_acts 399 = .ok (.iload 9, 2) := by decide +kernel
theorem dL_acts_401 : decode cL_acts 401 = .ok (.iload 10, 2) := by decide +kernel
theorem dL_acts_403 : decode cL_acts 403 = .ok (.if_icmp .ne 10, 3) := by decide +kernel
theorem dL_acts_406 : decode cL_acts 406 = .ok (.iload 10, 2) := by decide +kernel
theorem dL_acts_408 : decode cL_acts 408 = .ok (.iconst 1, 1) := by decide +kernel
theorem dL_acts_409 : decode cL_acts 409 = .ok (.iadd, 1) := by decide +kernel
theorem dL_acts_410 : decode cL_acts 410 = .ok (.goto 5, 3) := by decide +kernel
theorem dL_acts_413 : decode cL_acts 413 = .ok (.iload 10, 2) := by decide +kernel
theorem dL_acts_415 : decode cL_acts 415 = .ok (.if_icmp .ne 7, 3) := by decide +kernel
theorem dL_acts_418 : decode cL_acts 418 = .ok (.iconst 1, 1) := by decide +kernel
theorem dL_acts_419 : decode cL_acts 419 = .ok (.goto 4, 3) := by decide +kernel
theorem dL_acts_422 : decode cL_acts 422 = .ok (.iconst 0, 1) := by decide +kernel
theorem dL_acts_423 : decode cL_acts 423 = .ok (.ireturn, 1) := by decide +kernel
theorem dL_acts_424 : decode cL_acts 424 = .ok (.iload_n 3, 1) := by decide +kernel
theorem dL_acts_425 : decode cL_acts 425 = .ok (.bipush 12, 2) := by decide +kernel
theorem dL_acts_427 : decode cL_acts 427 = .ok (.if_icmp .ge 214, 3) := by decide +kernel
theorem dL_acts_430 : decode cL_acts 430 = .ok (.iload_n 2, 1) := by decide +kernel
theorem dL_acts_431 : decode cL_acts 431 = .ok (.bipush 6, 2) := by decide +kernel
theorem dL_acts_433 : decode cL_acts 433 = .ok (.invokestatic 36, 3) := by decide +kernel
theorem dL_acts_436 : decode cL_acts 436 = .ok (.istore 9, 2) := by decide +kernel
theorem dL_acts_438 : decode cL_acts 438 = .ok (.iload_n 2, 1) := by decide +kernel
theorem dL_acts_439 : decode cL_acts 439 = .ok (.iconst 3, 1) := by decide +kernel
theorem dL_acts_440 : decode cL_acts 440 = .ok (.ishr, 1) := by decide +kernel
theorem dL_acts_441 : decode cL_acts 441 = .ok (.bipush 8, 2) := by decide +kernel
theorem dL_acts_443 : decode cL_acts 443 = .ok (.invokestatic 36, 3) := by decide +kernel
theorem dL_acts_446 : decode cL_acts 446 = .ok (.istore 10, 2) := by decide +kernel
theorem dL_acts_448 : decode cL_acts 448 = .ok (.iload_n 2, 1) := by decide +kernel
theorem dL_acts_449 : decode cL_acts 449 = .ok (.bipush 6, 2) := by decide +kernel
theorem dL_acts_451 : decode cL_acts 451 = .ok (.ishr, 1) := by decide +kernel
theorem dL_acts_452 : decode cL_acts 452 = .ok (.bipush 30, 2) := by decide +kernel
theorem dL_acts_454 : decode cL_acts 454 = .ok (.invokestatic 36, 3) := by decide +kernel
theorem dL_acts_457 : decode cL_acts 457 = .ok (.istore 11, 2) := by decide +kernel
