theorem dX0_init_0 : decode cX0_init 0 = .ok (.aload_n 0, 1) := by decide +kernel
theorem dX0_init_1 : decode cX0_init 1 = .ok (.invokespecial 3, 3) := by decide +kernel
theorem dX0_init_4 : decode cX0_init 4 = .ok (.aload_n 0, 1) := by decide +kernel
theorem dX0_init_5 : decode cX0_init 5 = .ok (.iconst 4, 1) := by decide +kernel
theorem dX0_init_6 : decode cX0_init 6 = .ok (.newarray .boolean, 2) := by decide +kernel
theorem dX0_init_8 : decode cX0_init 8 = .ok (.putfield 9, 3) := by decide +kernel
theorem dX0_init_11 : decode cX0_init 11 = .ok (.aload_n 0, 1) := by decide +kernel
theorem dX0_init_12 : decode cX0_init 12 = .ok (.iconst 4, 1) := by decide +kernel
theorem dX0_init_13 : decode cX0_init 13 = .ok (.newarray .int, 2) := by decide +kernel
theorem dX0_init_15 : decode cX0_init 15 = .ok (.putfield 15, 3) := by decide +kernel
theorem dX0_init_18 : decode cX0_init 18 = .ok (.aload_n 0, 1) := by decide +kernel
theorem dX0_init_19 : decode cX0_init 19 = .ok (.iconst 4, 1) := by decide +kernel
theorem dX0_init_20 : decode cX0_init 20 = .ok (.newarray .boolean, 2) := by decide +kernel
theorem dX0_init_22 : decode cX0_init 22 = .ok (.putfield 19, 3) := by decide +kernel
theorem dX0_init_25 : decode cX0_init 25 = .ok (.return_, 1) := by decide +kernel
theorem dX0_carry_0 : decode cX0_carry 0 = .ok (.aload_n 0, 1) := by decide +kernel
theorem dX0_carry_1 : decode cX0_carry 1 = .ok (.aload_n 1, 1) := by decide +kernel
theorem dX0_carry_2 : decode cX0_carry 2 = .ok (.invokevirtual 22, 3) := by decide +kernel
theorem dX0_carry_5 : decode cX0_carry 5 = .ok (.iconst 0, 1) := by decide +kernel
theorem dX0_carry_6 : decode cX0_carry 6 = .ok (.istore_n 2, 1) := by decide +kernel
theorem dX0_carry_7 : decode cX0_carry 7 = .ok (.iload_n 2, 1) := by decide +kernel
theorem dX0_carry_8 : decode cX0_carry 8 = .ok (.aload_n 1, 1) := by decide +kernel
theorem dX0_carry_9 : decode cX0_carry 9 = .ok (.getfield 26, 3) := by decide +kernel
theorem dX0_carry_12 : decode cX0_carry 12 = .ok (.if_icmp .ge 34, 3) := by decide +kernel
theorem dX0_carry_15 : decode cX0_carry 15 = .ok (.aload_n 0, 1) := by decide +kernel
theorem dX0_carry_16 : decode cX0_carry 16 = .ok (.getfield 19, 3) := by decide +kernel
theorem dX0_carry_19 : decode cX0_carry 19 = .ok (.iload_n 2, 1) := by decide +kernel
theorem dX0_carry_20 : decode cX0_carry 20 = .ok (.baload, 1) := by decide +kernel
theorem dX0_carry_21 : decode cX0_carry 21 = .ok (.ifCond .eq 19, 3) := by decide +kernel
theorem dX0_carry_24 : decode cX0_carry 24 = .ok (.aload_n 0, 1) := by decide +kernel
theorem dX0_carry_25 : decode cX0_carry 25 = .ok (.aload_n 1, 1) := by decide +kernel
theorem dX0_carry_26 : decode cX0_carry 26 = .ok (.iload_n 2, 1) := by decide +kernel
theorem dX0_carry_27 : decode cX0_carry 27 = .ok (.invokevirtual 32, 3) := by decide +kernel
theorem dX0_carry_30 : decode cX0_carry 30 = .ok (.ifCond .eq 10, 3) := by decide +kernel
theorem dX0_carry_33 : decode cX0_carry 33 = .ok (.aload_n 0, 1) := by decide +kernel
theorem dX0_carry_34 : decode cX0_carry 34 = .ok (.getfield 19, 3) := by decide +kernel
theorem dX0_carry_37 : decode cX0_carry 37 = .ok (.iload_n 2, 1) := by decide +kernel
theorem dX0_carry_38 : decode cX0_carry 38 = .ok (.iconst 0, 1) := by decide +kernel
theorem dX0_carry_39 : decode cX0_carry 39 = .ok (.bastore, 1) := by decide +kernel
theorem dX0_carry_40 : decode cX0_carry 40 = .ok (.iinc 2 1, 3) := by decide +kernel
theorem dX0_carry_43 : decode cX0_carry 43 = .ok (.goto (-36), 3) := by decide +kernel
theorem dX0_carry_46 : decode cX0_carry 46 = .ok (.iconst 0, 1) := by decide +kernel
theorem dX0_carry_47 : decode cX0_carry 47 = .ok (.istore_n 2, 1) := by decide +kernel
theorem dX0_carry_48 : decode cX0_carry 48 = .ok (.iload_n 2, 1) := by decide +kernel
theorem dX0_carry_49 : decode cX0_carry 49 = .ok (.aload_n 1, 1) := by decide +kernel
theorem dX0_carry_50 : decode cX0_carry 50 = .ok (.getfield 26, 3) := by decide +kernel
theorem dX0_carry_53 : decode cX0_carry 53 = .ok (.if_icmp .ge 50, 3) := by decide +kernel
theorem dX0_carry_56 : decode cX0_carry 56 = .ok (.iconst 0, 1) := by decide +kernel
theorem dX0_carry_57 : decode cX0_carry 57 = .ok (.istore_n 3, 1) := by decide +kernel
theorem dX0_carry_58 : decode cX0_carry 58 = .ok (.iload_n 3, 1) := by decide +kernel
theorem dX0_carry_59 : decode cX0_carry 59 = .ok (.aload_n 1, 1) := by decide +kernel
theorem dX0_carry_60 : decode cX0_carry 60 = .ok (.getfield 26, 3) := by decide +kernel
theorem dX0_carry_63 : decode cX0_carry 63 = .ok (.if_icmp .ge 34, 3) := by decide +kernel
theorem dX0_carry_66 : decode cX0_carry 66 = .ok (.aload_n 0, 1) := by decide +kernel
theorem dX0_carry_67 : decode cX0_carry 67 = .ok (.getfield 19, 3) := by decide +kernel
theorem dX0_carry_70 : decode cX0_carry 70 = .ok (.iload_n 3, 1) := by decide +kernel
theorem dX0_carry_71 : decode cX0_carry 71 = .ok (.baload, 1) := by decide +kernel
theorem dX0_carry_72 : decode cX0_carry 72 = .ok (.ifCond .eq 19, 3) := by decide +kernel
theorem dX0_carry_75 : decode cX0_carry 75 = .ok (.aload_n 0, 1) := by decide +kernel
theorem dX0_carry_76 : decode cX0_carry 76 = .ok (.aload_n 1, 1) := by decide +kernel
theorem dX0_carry_77 : decode cX0_carry 77 = .ok (.iload_n 3, 1) := by decide +kernel
theorem dX0_carry_78 : decode cX0_carry 78 = .ok (.invokevirtual 36, 3) := by decide +kernel
theorem dX0_carry_81 : decode cX0_carry 81 = .ok (.ifCond .eq 10, 3) := by decide +kernel
theorem dX0_carry_84 : decode cX0_carry 84 = .ok (.aload_n 0, 1) := by decide +kernel
theorem dX0_carry_85 : decode cX0_carry 85 = .ok (.getfield 19, 3) := by decide +kernel
theorem dX0_carry_88 : decode cX0_carry 88 = .ok (.iload_n 3, 1) := by decide +kernel
theorem dX0_carry_89 : decode cX0_carry 89 = .ok (.iconst 0, 1) := by decide +kernel
theorem dX0_carry_90 : decode cX0_carry 90 = .ok (.bastore, 1) := by decide +kernel
theorem dX0_carry_91 : decode cX0_carry 91 = .ok (.iinc 3 1, 3) := by decide +kernel
theorem dX0_carry_94 : decode cX0_carry 94 = .ok (.goto (-36), 3) := by decide +kernel
theorem dX0_carry_97 : decode cX0_carry 97 = .ok (.iinc 2 1, 3) := by decide +kernel
theorem dX0_carry_100 : decode cX0_carry 100 = .ok (.goto (-52), 3) := by decide +kernel
theorem dX0_carry_103 : decode cX0_carry 103 = .ok (.iconst 0, 1) := by decide +kernel
theorem dX0_carry_104 : decode cX0_carry 104 = .ok (.istore_n 2, 1) := by decide +kernel
theorem dX0_carry_105 : decode cX0_carry 105 = .ok (.iload_n 2, 1) := by decide +kernel
theorem dX0_carry_106 : decode cX0_carry 106 = .ok (.aload_n 1, 1) := by decide +kernel
theorem dX0_carry_107 : decode cX0_carry 107 = .ok (.getfield 26, 3) := by decide +kernel
theorem dX0_carry_110 : decode cX0_carry 110 = .ok (.if_icmp .ge 34, 3) := by decide +kernel
theorem dX0_carry_113 : decode cX0_carry 113 = .ok (.aload_n 0, 1) := by decide +kernel
theorem dX0_carry_114 : decode cX0_carry 114 = .ok (.getfield 19, 3) := by decide +kernel
theorem dX0_carry_117 : decode cX0_carry 117 = .ok (.iload_n 2, 1) := by decide +kernel
theorem dX0_carry_118 : decode cX0_carry 118 = .ok (.baload, 1) := by decide +kernel
theorem dX0_carry_119 : decode cX0_carry 119 = .ok (.ifCond .eq 19, 3) := by decide +kernel
theorem dX0_carry_122 : decode cX0_carry 122 = .ok (.aload_n 1, 1) := by decide +kernel
theorem dX0_carry_123 : decode cX0_carry 123 = .ok (.aload_n 1, 1) := by decide +kernel
theorem dX0_carry_124 : decode cX0_carry 124 = .ok (.getfield 39, 3) := by decide +kernel
theorem dX0_carry_127 : decode cX0_carry 127 = .ok (.iload_n 2, 1) := by decide +kernel
theorem dX0_carry_128 : decode cX0_carry 128 = .ok (.aaload, 1) := by decide +kernel
theorem dX0_carry_129 : decode cX0_carry 129 = .ok (.aload_n 0, 1) := by decide +kernel
theorem dX0_carry_130 : decode cX0_carry 130 = .ok (.getfield 15, 3) := by decide +kernel
theorem dX0_carry_133 : decode cX0_carry 133 = .ok (.iload_n 2, 1) := by decide +kernel
theorem dX0_carry_134 : decode cX0_carry 134 = .ok (.iaload, 1) := by decide +kernel
theorem dX0_carry_135 : decode cX0_carry 135 = .ok (.invokevirtual 43, 3) := by decide +kernel
theorem dX0_carry_138 : decode cX0_carry 138 = .ok (.iinc 2 1, 3) := by decide +kernel
theorem dX0_carry_141 : decode cX0_carry 141 = .ok (.goto (-36), 3) := by decide +kernel
theorem dX0_carry_144 : decode cX0_carry 144 = .ok (.return_, 1) := by decide +kernel
theorem dX0_askAll_0 : decode cX0_askAll 0 = .ok (.iconst 0, 1) := by decide +kernel
theorem dX0_askAll_1 : decode cX0_askAll 1 = .ok (.istore_n 2, 1) := by decide +kernel
theorem dX0_askAll_2 : decode cX0_askAll 2 = .ok (.iload_n 2, 1) := by decide +kernel
theorem dX0_askAll_3 : decode cX0_askAll 3 = .ok (.aload_n 1, 1) := by decide +kernel
theorem dX0_askAll_4 : decode cX0_askAll 4 = .ok (.getfield 26, 3) := by decide +kernel
theorem dX0_askAll_7 : decode cX0_askAll 7 = .ok (.if_icmp .ge 116, 3) := by decide +kernel
theorem dX0_askAll_10 : decode cX0_askAll 10 = .ok (.aload_n 1, 1) := by decide +kernel
theorem dX0_askAll_11 : decode cX0_askAll 11 = .ok (.getfield 39, 3) := by decide +kernel
theorem dX0_askAll_14 : decode cX0_askAll 14 = .ok (.iload_n 2, 1) := by decide +kernel
theorem dX0_askAll_15 : decode cX0_askAll 15 = .ok (.aaload, 1) := by decide +kernel
theorem dX0_askAll_16 : decode cX0_askAll 16 = .ok (.getfield 47, 3) := by decide +kernel
theorem dX0_askAll_19 : decode cX0_askAll 19 = .ok (.istore_n 3, 1) := by decide +kernel
theorem dX0_askAll_20 : decode cX0_askAll 20 = .ok (.aload_n 1, 1) := by decide +kernel
theorem dX0_askAll_21 : decode cX0_askAll 21 = .ok (.getfield 52, 3) := by decide +kernel
theorem dX0_askAll_24 : decode cX0_askAll 24 = .ok (.iload_n 3, 1) := by decide +kernel
theorem dX0_askAll_25 : decode cX0_askAll 25 = .ok (.invokevirtual 56, 3) := by decide +kernel
theorem dX0_askAll_28 : decode cX0_askAll 28 = .ok (.istore 4, 2) := by decide +kernel
theorem dX0_askAll_30 : decode cX0_askAll 30 = .ok (.iload 4, 2) := by decide +kernel
theorem dX0_askAll_32 : decode cX0_askAll 32 = .ok (.iconst 1, 1) := by decide +kernel
theorem dX0_askAll_33 : decode cX0_askAll 33 = .ok (.isub, 1) := by decide +kernel
theorem dX0_askAll_34 : decode cX0_askAll 34 = .ok (.istore 5, 2) := by decide +kernel
theorem dX0_askAll_36 : decode cX0_askAll 36 = .ok (.aload_n 0, 1) := by decide +kernel
theorem dX0_askAll_37 : decode cX0_askAll 37 = .ok (.getfield 9, 3) := by decide +kernel
theorem dX0_askAll_40 : decode cX0_askAll 40 = .ok (.iload_n 2, 1) := by decide +kernel
theorem dX0_askAll_41 : decode cX0_askAll 41 = .ok (.iload 4, 2) := by decide +kernel
theorem dX0_askAll_43 : decode cX0_askAll 43 = .ok (.iconst 1, 1) := by decide +kernel
theorem dX0_askAll_44 : decode cX0_askAll 44 = .ok (.if_icmp .lt 13, 3) := by decide +kernel
theorem dX0_askAll_47 : decode cX0_askAll 47 = .ok (.iload 4, 2) := by decide +kernel
theorem dX0_askAll_49 : decode cX0_askAll 49 = .ok (.iconst 4, 1) := by decide +kernel
theorem dX0_askAll_50 : decode cX0_askAll 50 = .ok (.if_icmp .gt 7, 3) := by decide +kernel
theorem dX0_askAll_53 : decode cX0_askAll 53 = .ok (.iconst 1, 1) := by decide +kernel
theorem dX0_askAll_54 : decode cX0_askAll 54 = .ok (.goto 4, 3) := by decide +kernel
theorem dX0_askAll_57 : decode cX0_askAll 57 = .ok (.iconst 0, 1) := by decide +kernel
theorem dX0_askAll_58 : decode cX0_askAll 58 = .ok (.bastore, 1) := by decide +kernel
theorem dX0_askAll_59 : decode cX0_askAll 59 = .ok (.aload_n 0, 1) := by decide +kernel
theorem dX0_askAll_60 : decode cX0_askAll 60 = .ok (.getfield 15, 3) := by decide +kernel
theorem dX0_askAll_63 : decode cX0_askAll 63 = .ok (.iload_n 2, 1) := by decide +kernel
theorem dX0_askAll_64 : decode cX0_askAll 64 = .ok (.aload_n 0, 1) := by decide +kernel
theorem dX0_askAll_65 : decode cX0_askAll 65 = .ok (.getfield 9, 3) := by decide +kernel
theorem dX0_askAll_68 : decode cX0_askAll 68 = .ok (.iload_n 2, 1) := by decide +kernel
theorem dX0_askAll_69 : decode cX0_askAll 69 = .ok (.baload, 1) := by decide +kernel
theorem dX0_askAll_70 : decode cX0_askAll 70 = .ok (.ifCond .eq 12, 3) := by decide +kernel
theorem dX0_askAll_73 : decode cX0_askAll 73 = .ok (.iload_n 3, 1) := by decide +kernel
theorem dX0_askAll_74 : decode cX0_askAll 74 = .ok (.iload 5, 2) := by decide +kernel
theorem dX0_askAll_76 : decode cX0_askAll 76 = .ok (.invokestatic 62, 3) := by decide +kernel
theorem dX0_askAll_79 : decode cX0_askAll 79 = .ok (.goto 4, 3) := by decide +kernel
theorem dX0_askAll_82 : decode cX0_askAll 82 = .ok (.iconst (-1), 1) := by decide +kernel
theorem dX0_askAll_83 : decode cX0_askAll 83 = .ok (.iastore, 1) := by decide +kernel
theorem dX0_askAll_84 : decode cX0_askAll 84 = .ok (.aload_n 0, 1) := by decide +kernel
theorem dX0_askAll_85 : decode cX0_askAll 85 = .ok (.getfield 19, 3) := by decide +kernel
theorem dX0_askAll_88 : decode cX0_askAll 88 = .ok (.iload_n 2, 1) := by decide +kernel
theorem dX0_askAll_89 : decode cX0_askAll 89 = .ok (.aload_n 0, 1) := by decide +kernel
theorem dX0_askAll_90 : decode cX0_askAll 90 = .ok (.getfield 9, 3) := by decide +kernel
theorem dX0_askAll_93 : decode cX0_askAll 93 = .ok (.iload_n 2, 1) := by decide +kernel
theorem dX0_askAll_94 : decode cX0_askAll 94 = .ok (.baload, 1) := by decide +kernel
theorem dX0_askAll_95 : decode cX0_askAll 95 = .ok (.ifCond .eq 20, 3) := by decide +kernel
theorem dX0_askAll_98 : decode cX0_askAll 98 = .ok (.aload_n 1, 1) := by decide +kernel
theorem dX0_askAll_99 : decode cX0_askAll 99 = .ok (.getfield 52, 3) := by decide +kernel
theorem dX0_askAll_102 : decode cX0_askAll 102 = .ok (.iload_n 3, 1) := by decide +kernel
theorem dX0_askAll_103 : decode cX0_askAll 103 = .ok (.iload 5, 2) := by decide +kernel
theorem dX0_askAll_105 : decode cX0_askAll 105 = .ok (.invokevirtual 66, 3) := by decide +kernel
theorem dX0_askAll_108 : decode cX0_askAll 108 = .ok (.ifCond .ne 7, 3) := by decide +kernel
theorem dX0_askAll_111 : decode cX0_askAll 111 = .ok (.iconst 1, 1) := by decide +kernel
theorem dX0_askAll_112 : decode cX0_askAll 112 = .ok (.goto 4, 3) := by decide +kernel
theorem dX0_askAll_115 : decode cX0_askAll 115 = .ok (.iconst 0, 1) := by decide +kernel
theorem dX0_askAll_116 : decode cX0_askAll 116 = .ok (.bastore, 1) := by decide +kernel
theorem dX0_askAll_117 : decode cX0_askAll 117 = .ok (.iinc 2 1, 3) := by decide +kernel
theorem dX0_askAll_120 : decode cX0_askAll 120 = .ok (.goto (-118), 3) := by decide +kernel
theorem dX0_askAll_123 : decode cX0_askAll 123 = .ok (.return_, 1) := by decide +kernel
theorem dX0_isHindered_0 : decode cX0_isHindered 0 = .ok (.iconst 0, 1) := by decide +kernel
theorem dX0_isHindered_1 : decode cX0_isHindered 1 = .ok (.istore_n 3, 1) := by decide +kernel
theorem dX0_isHindered_2 : decode cX0_isHindered 2 = .ok (.iload_n 3, 1) := by decide +kernel
theorem dX0_isHindered_3 : decode cX0_isHindered 3 = .ok (.aload_n 1, 1) := by decide +kernel
theorem dX0_isHindered_4 : decode cX0_isHindered 4 = .ok (.getfield 26, 3) := by decide +kernel
theorem dX0_isHindered_7 : decode cX0_isHindered 7 = .ok (.if_icmp .ge 113, 3) := by decide +kernel
theorem dX0_isHindered_10 : decode cX0_isHindered 10 = .ok (.iload_n 3, 1) := by decide +kernel
theorem dX0_isHindered_11 : decode cX0_isHindered 11 = .ok (.iload_n 2, 1) := by decide +kernel
theorem dX0_isHindered_12 : decode cX0_isHindered 12 = .ok (.if_icmp .eq 102, 3) := by decide +kernel
theorem dX0_isHindered_15 : decode cX0_isHindered 15 = .ok (.aload_n 0, 1) := by decide +kernel
theorem dX0_isHindered_16 : decode cX0_isHindered 16 = .ok (.getfield 9, 3) := by decide +kernel
theorem dX0_isHindered_19 : decode cX0_isHindered 19 = .ok (.iload_n 3, 1) := by decide +kernel
theorem dX0_isHindered_20 : decode cX0_isHindered 20 = .ok (.baload, 1) := by decide +kernel
theorem dX0_isHindered_21 : decode cX0_isHindered 21 = .ok (.ifCond .eq 93, 3) := by decide +kernel
theorem dX0_isHindered_24 : decode cX0_isHindered 24 = .ok (.aload_n 0, 1) := by decide +kernel
theorem dX0_isHindered_25 : decode cX0_isHindered 25 = .ok (.getfield 15, 3) := by decide +kernel
theorem dX0_isHindered_28 : decode cX0_isHindered 28 = .ok (.iload_n 2, 1) := by decide +kernel
theorem dX0_isHindered_29 : decode cX0_isHindered 29 = .ok (.iaload, 1) := by decide +kernel
theorem dX0_isHindered_30 : decode cX0_isHindered 30 = .ok (.iconst (-1), 1) := by decide +kernel
theorem dX0_isHindered_31 : decode cX0_isHindered 31 = .ok (.if_icmp .ne 6, 3) := by decide +kernel
theorem dX0_isHindered_34 : decode cX0_isHindered 34 = .ok (.goto 80, 3) := by decide +kernel
theorem dX0_isHindered_37 : decode cX0_isHindered 37 = .ok (.aload_n 0, 1) := by decide +kernel
theorem dX0_isHindered_38 : decode cX0_isHindered 38 = .ok (.getfield 15, 3) := by decide +kernel
theorem dX0_isHindered_41 : decode cX0_isHindered 41 = .ok (.iload_n 3, 1) := by decide +kernel
theorem dX0_isHindered_42 : decode cX0_isHindered 42 = .ok (.iaload, 1) := by decide +kernel
theorem dX0_isHindered_43 : decode cX0_isHindered 43 = .ok (.aload_n 0, 1) := by decide +kernel
theorem dX0_isHindered_44 : decode cX0_isHindered 44 = .ok (.getfield 15, 3) := by decide +kernel
theorem dX0_isHindered_47 : decode cX0_isHindered 47 = .ok (.iload_n 2, 1) := by decide +kernel
theorem dX0_isHindered_48 : decode cX0_isHindered 48 = .ok (.iaload, 1) := by decide +kernel
theorem dX0_isHindered_49 : decode cX0_isHindered 49 = .ok (.if_icmp .ne 7, 3) := by decide +kernel
theorem dX0_isHindered_52 : decode cX0_isHindered 52 = .ok (.iconst 1, 1) := by decide +kernel
theorem dX0_isHindered_53 : decode cX0_isHindered 53 = .ok (.goto 4, 3) := by decide +kernel
theorem dX0_isHindered_56 : decode cX0_isHindered 56 = .ok (.iconst 0, 1) := by decide +kernel
theorem dX0_isHindered_57 : decode cX0_isHindered 57 = .ok (.istore 4, 2) := by decide +kernel
theorem dX0_isHindered_59 : decode cX0_isHindered 59 = .ok (.aload_n 0, 1) := by decide +kernel
theorem dX0_isHindered_60 : decode cX0_isHindered 60 = .ok (.getfield 15, 3) := by decide +kernel
theorem dX0_isHindered_63 : decode cX0_isHindered 63 = .ok (.iload_n 2, 1) := by decide +kernel
theorem dX0_isHindered_64 : decode cX0_isHindered 64 = .ok (.iaload, 1) := by decide +kernel
theorem dX0_isHindered_65 : decode cX0_isHindered 65 = .ok (.aload_n 1, 1) := by decide +kernel
theorem dX0_isHindered_66 : decode cX0_isHindered 66 = .ok (.getfield 39, 3) := by decide +kernel
theorem dX0_isHindered_69 : decode cX0_isHindered 69 = .ok (.iload_n 3, 1) := by decide +kernel
theorem dX0_isHindered_70 : decode cX0_isHindered 70 = .ok (.aaload, 1) := by decide +kernel
theorem dX0_isHindered_71 : decode cX0_isHindered 71 = .ok (.getfield 47, 3) := by decide +kernel
theorem dX0_isHindered_74 : decode cX0_isHindered 74 = .ok (.if_icmp .ne 25, 3) := by decide +kernel
theorem dX0_isHindered_77 : decode cX0_isHindered 77 = .ok (.aload_n 0, 1) := by decide +kernel
theorem dX0_isHindered_78 : decode cX0_isHindered 78 = .ok (.getfield 15, 3) := by decide +kernel
theorem dX0_isHindered_81 : decode cX0_isHindered 81 = .ok (.iload_n 3, 1) := by decide +kernel
theorem dX0_isHindered_82 : decode cX0_isHindered 82 = .ok (.iaload, 1) := by decide +kernel
theorem dX0_isHindered_83 : decode cX0_isHindered 83 = .ok (.aload_n 1, 1) := by decide +kernel
theorem dX0_isHindered_84 : decode cX0_isHindered 84 = .ok (.getfield 39, 3) := by decide +kernel
theorem dX0_isHindered_87 : decode cX0_isHindered 87 = .ok (.iload_n 2, 1) := by decide +kernel
theorem dX0_isHindered_88 : decode cX0_isHindered 88 = .ok (.aaload, 1) := by decide +kernel
theorem dX0_isHindered_89 : decode cX0_isHindered 89 = .ok (.getfield 47, 3) := by decide +kernel
theorem dX0_isHindered_92 : decode cX0_isHindered 92 = .ok (.if_icmp .ne 7, 3) := by decide +kernel
theorem dX0_isHindered_95 : decode cX0_isHindered 95 = .ok (.iconst 1, 1) := by decide +kernel
theorem dX0_isHindered_96 : decode cX0_isHindered 96 = .ok (.goto 4, 3) := by decide +kernel
theorem dX0_isHindered_99 : decode cX0_isHindered 99 = .ok (.iconst 0, 1) := by decide +kernel
theorem dX0_isHindered_100 : decode cX0_isHindered 100 = .ok (.istore 5, 2) := by decide +kernel
theorem dX0_isHindered_102 : decode cX0_isHindered 102 = .ok (.iload 4, 2) := by decide +kernel
theorem dX0_isHindered_104 : decode cX0_isHindered 104 = .ok (.ifCond .ne 8, 3) := by decide +kernel
theorem dX0_isHindered_107 : decode cX0_isHindered 107 = .ok (.iload 5, 2) := by decide +kernel
theorem dX0_isHindered_109 : decode cX0_isHindered 109 = .ok (.ifCond .eq 5, 3) := by decide +kernel
theorem dX0_isHindered_112 : decode cX0_isHindered 112 = .ok (.iconst 1, 1) := by decide +kernel
theorem dX0_isHindered_113 : decode cX0_isHindered 113 = .ok (.ireturn, 1) := by decide +kernel
theorem dX0_isHindered_114 : decode cX0_isHindered 114 = .ok (.iinc 3 1, 3) := by decide +kernel
theorem dX0_isHindered_117 : decode cX0_isHindered 117 = .ok (.goto (-115), 3) := by decide +kernel
theorem dX0_isHindered_120 : decode cX0_isHindered 120 = .ok (.iconst 0, 1) := by decide +kernel
theorem dX0_isHindered_121 : decode cX0_isHindered 121 = .ok (.ireturn, 1) := by decide +kernel
theorem dX0_isBlocked_0 : decode cX0_isBlocked 0 = .ok (.aload_n 1, 1) := by decide +kernel
theorem dX0_isBlocked_1 : decode cX0_isBlocked 1 = .ok (.aload_n 0, 1) := by decide +kernel
theorem dX0_isBlocked_2 : decode cX0_isBlocked 2 = .ok (.getfield 15, 3) := by decide +kernel
theorem dX0_isBlocked_5 : decode cX0_isBlocked 5 = .ok (.iload_n 2, 1) := by decide +kernel
theorem dX0_isBlocked_6 : decode cX0_isBlocked 6 = .ok (.iaload, 1) := by decide +kernel
theorem dX0_isBlocked_7 : decode cX0_isBlocked 7 = .ok (.invokevirtual 70, 3) := by decide +kernel
theorem dX0_isBlocked_10 : decode cX0_isBlocked 10 = .ok (.istore_n 3, 1) := by decide +kernel
theorem dX0_isBlocked_11 : decode cX0_isBlocked 11 = .ok (.iload_n 3, 1) := by decide +kernel
theorem dX0_isBlocked_12 : decode cX0_isBlocked 12 = .ok (.iconst (-1), 1) := by decide +kernel
theorem dX0_isBlocked_13 : decode cX0_isBlocked 13 = .ok (.if_icmp .eq 16, 3) := by decide +kernel
theorem dX0_isBlocked_16 : decode cX0_isBlocked 16 = .ok (.aload_n 0, 1) := by decide +kernel
theorem dX0_isBlocked_17 : decode cX0_isBlocked 17 = .ok (.getfield 19, 3) := by decide +kernel
theorem dX0_isBlocked_20 : decode cX0_isBlocked 20 = .ok (.iload_n 3, 1) := by decide +kernel
theorem dX0_isBlocked_21 : decode cX0_isBlocked 21 = .ok (.baload, 1) := by decide +kernel
theorem dX0_isBlocked_22 : decode cX0_isBlocked 22 = .ok (.ifCond .ne 7, 3) := by decide +kernel
theorem dX0_isBlocked_25 : decode cX0_isBlocked 25 = .ok (.iconst 1, 1) := by decide +kernel
theorem dX0_isBlocked_26 : decode cX0_isBlocked 26 = .ok (.goto 4, 3) := by decide +kernel
theorem dX0_isBlocked_29 : decode cX0_isBlocked 29 = .ok (.iconst 0, 1) := by decide +kernel
theorem dX0_isBlocked_30 : decode cX0_isBlocked 30 = .ok (.ireturn, 1) := by decide +kernel
theorem dX1_init_0 : decode cX1_init 0 = .ok (.aload_n 0, 1) := by decide +kernel
theorem dX1_init_1 : decode cX1_init 1 = .ok (.invokespecial 3, 3) := by decide +kernel
theorem dX1_init_4 : decode cX1_init 4 = .ok (.aload_n 0, 1) := by decide +kernel
theorem dX1_init_5 : decode cX1_init 5 = .ok (.bipush 64, 2) := by decide +kernel
theorem dX1_init_7 : decode cX1_init 7 = .ok (.newarray .int, 2) := by decide +kernel
theorem dX1_init_9 : decode cX1_init 9 = .ok (.putfield 9, 3) := by decide +kernel
theorem dX1_init_12 : decode cX1_init 12 = .ok (.aload_n 0, 1) := by decide +kernel
theorem dX1_init_13 : decode cX1_init 13 = .ok (.bipush 64, 2) := by decide +kernel
theorem dX1_init_15 : decode cX1_init 15 = .ok (.newarray .int, 2) := by decide +kernel
theorem dX1_init_17 : decode cX1_init 17 = .ok (.putfield 15, 3) := by decide +kernel
theorem dX1_init_20 : decode cX1_init 20 = .ok (.aload_n 0, 1) := by decide +kernel
theorem dX1_init_21 : decode cX1_init 21 = .ok (.iconst 4, 1) := by decide +kernel
theorem dX1_init_22 : decode cX1_init 22 = .ok (.newarray .int, 2) := by decide +kernel
theorem dX1_init_24 : decode cX1_init 24 = .ok (.putfield 18, 3) := by decide +kernel
theorem dX1_init_27 : decode cX1_init 27 = .ok (.return_, 1) := by decide +kernel
theorem dX1_copyFrom_0 : decode cX1_copyFrom 0 = .ok (.aload_n 1, 1) := by decide +kernel
theorem dX1_copyFrom_1 : decode cX1_copyFrom 1 = .ok (.getfield 9, 3) := by decide +kernel
theorem dX1_copyFrom_4 : decode cX1_copyFrom 4 = .ok (.iconst 0, 1) := by decide +kernel
theorem dX1_copyFrom_5 : decode cX1_copyFrom 5 = .ok (.aload_n 0, 1) := by decide +kernel
theorem dX1_copyFrom_6 : decode cX1_copyFrom 6 = .ok (.getfield 9, 3) := by decide +kernel
theorem dX1_copyFrom_9 : decode cX1_copyFrom 9 = .ok (.iconst 0, 1) := by decide +kernel
theorem dX1_copyFrom_10 : decode cX1_copyFrom 10 = .ok (.bipush 64, 2) := by decide +kernel
theorem dX1_copyFrom_12 : decode cX1_copyFrom 12 = .ok (.invokestatic 21, 3) := by decide +kernel
theorem dX1_copyFrom_15 : decode cX1_copyFrom 15 = .ok (.aload_n 1, 1) := by decide +kernel
theorem dX1_copyFrom_16 : decode cX1_copyFrom 16 = .ok (.getfield 15, 3) := by decide +kernel
theorem dX1_copyFrom_19 : decode cX1_copyFrom 19 = .ok (.iconst 0, 1) := by decide +kernel
theorem dX1_copyFrom_20 : decode cX1_copyFrom 20 = .ok (.aload_n 0, 1) := by decide +kernel
theorem dX1_copyFrom_21 : decode cX1_copyFrom 21 = .ok (.getfield 15, 3) := by decide +kernel
theorem dX1_copyFrom_24 : decode cX1_copyFrom 24 = .ok (.iconst 0, 1) := by decide +kernel
theorem dX1_copyFrom_25 : decode cX1_copyFrom 25 = .ok (.bipush 64, 2) := by decide +kernel
theorem dX1_copyFrom_27 : decode cX1_copyFrom 27 = .ok (.invokestatic 21, 3) := by decide +kernel
theorem dX1_copyFrom_30 : decode cX1_copyFrom 30 = .ok (.aload_n 1, 1) := by decide +kernel
theorem dX1_copyFrom_31 : decode cX1_copyFrom 31 = .ok (.getfield 18, 3) := by decide +kernel
theorem dX1_copyFrom_34 : decode cX1_copyFrom 34 = .ok (.iconst 0, 1) := by decide +kernel
theorem dX1_copyFrom_35 : decode cX1_copyFrom 35 = .ok (.aload_n 0, 1) := by decide +kernel
theorem dX1_copyFrom_36 : decode cX1_copyFrom 36 = .ok (.getfield 18, 3) := by decide +kernel
theorem dX1_copyFrom_39 : decode cX1_copyFrom 39 = .ok (.iconst 0, 1) := by decide +kernel
theorem dX1_copyFrom_40 : decode cX1_copyFrom 40 = .ok (.iconst 4, 1) := by decide +kernel
theorem dX1_copyFrom_41 : decode cX1_copyFrom 41 = .ok (.invokestatic 21, 3) := by decide +kernel
theorem dX1_copyFrom_44 : decode cX1_copyFrom 44 = .ok (.aload_n 0, 1) := by decide +kernel
theorem dX1_copyFrom_45 : decode cX1_copyFrom 45 = .ok (.aload_n 1, 1) := by decide +kernel
theorem dX1_copyFrom_46 : decode cX1_copyFrom 46 = .ok (.getfield 27, 3) := by decide +kernel
theorem dX1_copyFrom_49 : decode cX1_copyFrom 49 = .ok (.putfield 27, 3) := by decide +kernel
theorem dX1_copyFrom_52 : decode cX1_copyFrom 52 = .ok (.return_, 1) := by decide +kernel
theorem dX1_kindOn_0 : decode cX1_kindOn 0 = .ok (.iload_n 1, 1) := by decide +kernel
theorem dX1_kindOn_1 : decode cX1_kindOn 1 = .ok (.ifCond .lt 18, 3) := by decide +kernel
theorem dX1_kindOn_4 : decode cX1_kindOn 4 = .ok (.iload_n 1, 1) := by decide +kernel
theorem dX1_kindOn_5 : decode cX1_kindOn 5 = .ok (.bipush 64, 2) := by decide +kernel
theorem dX1_kindOn_7 : decode cX1_kindOn 7 = .ok (.if_icmp .ge 12, 3) := by decide +kernel
theorem dX1_kindOn_10 : decode cX1_kindOn 10 = .ok (.aload_n 0, 1) := by decide +kernel
theorem dX1_kindOn_11 : decode cX1_kindOn 11 = .ok (.getfield 9, 3) := by decide +kernel
theorem dX1_kindOn_14 : decode cX1_kindOn 14 = .ok (.iload_n 1, 1) := by decide +kernel
theorem dX1_kindOn_15 : decode cX1_kindOn 15 = .ok (.iaload, 1) := by decide +kernel
theorem dX1_kindOn_16 : decode cX1_kindOn 16 = .ok (.goto 4, 3) := by decide +kernel
theorem dX1_kindOn_19 : decode cX1_kindOn 19 = .ok (.iconst (-1), 1) := by decide +kernel
theorem dX1_kindOn_20 : decode cX1_kindOn 20 = .ok (.ireturn, 1) := by decide +kernel
theorem dX1_isPit_0 : decode cX1_isPit 0 = .ok (.iload_n 1, 1) := by decide +kernel
theorem dX1_isPit_1 : decode cX1_isPit 1 = .ok (.ifCond .lt 24, 3) := by decide +kernel
theorem dX1_isPit_4 : decode cX1_isPit 4 = .ok (.iload_n 1, 1) := by decide +kernel
theorem dX1_isPit_5 : decode cX1_isPit 5 = .ok (.bipush 64, 2) := by decide +kernel
theorem dX1_isPit_7 : decode cX1_isPit 7 = .ok (.if_icmp .ge 18, 3) := by decide +kernel
theorem dX1_isPit_10 : decode cX1_isPit 10 = .ok (.aload_n 0, 1) := by decide +kernel
theorem dX1_isPit_11 : decode cX1_isPit 11 = .ok (.getfield 9, 3) := by decide +kernel
theorem dX1_isPit_14 : decode cX1_isPit 14 = .ok (.iload_n 1, 1) := by decide +kernel
theorem dX1_isPit_15 : decode cX1_isPit 15 = .ok (.iaload, 1) := by decide +kernel
theorem dX1_isPit_16 : decode cX1_isPit 16 = .ok (.bipush 7, 2) := by decide +kernel
theorem dX1_isPit_18 : decode cX1_isPit 18 = .ok (.if_icmp .ne 7, 3) := by decide +kernel
theorem dX1_isPit_21 : decode cX1_isPit 21 = .ok (.iconst 1, 1) := by decide +kernel
theorem dX1_isPit_22 : decode cX1_isPit 22 = .ok (.goto 4, 3) := by decide +kernel
theorem dX1_isPit_25 : decode cX1_isPit 25 = .ok (.iconst 0, 1) := by decide +kernel
theorem dX1_isPit_26 : decode cX1_isPit 26 = .ok (.ireturn, 1) := by decide +kernel
theorem dX1_wallsOf_0 : decode cX1_wallsOf 0 = .ok (.iload_n 1, 1) := by decide +kernel
theorem dX1_wallsOf_1 : decode cX1_wallsOf 1 = .ok (.ifCond .lt 18, 3) := by decide +kernel
theorem dX1_wallsOf_4 : decode cX1_wallsOf 4 = .ok (.iload_n 1, 1) := by decide +kernel
theorem dX1_wallsOf_5 : decode cX1_wallsOf 5 = .ok (.bipush 64, 2) := by decide +kernel
theorem dX1_wallsOf_7 : decode cX1_wallsOf 7 = .ok (.if_icmp .ge 12, 3) := by decide +kernel
theorem dX1_wallsOf_10 : decode cX1_wallsOf 10 = .ok (.aload_n 0, 1) := by decide +kernel
theorem dX1_wallsOf_11 : decode cX1_wallsOf 11 = .ok (.getfield 15, 3) := by decide +kernel
theorem dX1_wallsOf_14 : decode cX1_wallsOf 14 = .ok (.iload_n 1, 1) := by decide +kernel
theorem dX1_wallsOf_15 : decode cX1_wallsOf 15 = .ok (.iaload, 1) := by decide +kernel
theorem dX1_wallsOf_16 : decode cX1_wallsOf 16 = .ok (.goto 4, 3) := by decide +kernel
theorem dX1_wallsOf_19 : decode cX1_wallsOf 19 = .ok (.iconst 0, 1) := by decide +kernel
theorem dX1_wallsOf_20 : decode cX1_wallsOf 20 = .ok (.ireturn, 1) := by decide +kernel
theorem dX1_hasWall_0 : decode cX1_hasWall 0 = .ok (.iload_n 1, 1) := by decide +kernel
theorem dX1_hasWall_1 : decode cX1_hasWall 1 = .ok (.ifCond .lt 26, 3) := by decide +kernel
theorem dX1_hasWall_4 : decode cX1_hasWall 4 = .ok (.iload_n 1, 1) := by decide +kernel
theorem dX1_hasWall_5 : decode cX1_hasWall 5 = .ok (.bipush 64, 2) := by decide +kernel
theorem dX1_hasWall_7 : decode cX1_hasWall 7 = .ok (.if_icmp .ge 20, 3) := by decide +kernel
theorem dX1_hasWall_10 : decode cX1_hasWall 10 = .ok (.aload_n 0, 1) := by decide +kernel
theorem dX1_hasWall_11 : decode cX1_hasWall 11 = .ok (.getfield 15, 3) := by decide +kernel
theorem dX1_hasWall_14 : decode cX1_hasWall 14 = .ok (.iload_n 1, 1) := by decide +kernel
theorem dX1_hasWall_15 : decode cX1_hasWall 15 = .ok (.iaload, 1) := by decide +kernel
theorem dX1_hasWall_16 : decode cX1_hasWall 16 = .ok (.iload_n 2, 1) := by decide +kernel
theorem dX1_hasWall_17 : decode cX1_hasWall 17 = .ok (.ishr, 1) := by decide +kernel
theorem dX1_hasWall_18 : decode cX1_hasWall 18 = .ok (.iconst 1, 1) := by decide +kernel
theorem dX1_hasWall_19 : decode cX1_hasWall 19 = .ok (.iand, 1) := by decide +kernel
theorem dX1_hasWall_20 : decode cX1_hasWall 20 = .ok (.ifCond .eq 7, 3) := by decide +kernel
theorem dX1_hasWall_23 : decode cX1_hasWall 23 = .ok (.iconst 1, 1) := by decide +kernel
theorem dX1_hasWall_24 : decode cX1_hasWall 24 = .ok (.goto 4, 3) := by decide +kernel
theorem dX1_hasWall_27 : decode cX1_hasWall 27 = .ok (.iconst 0, 1) := by decide +kernel
theorem dX1_hasWall_28 : decode cX1_hasWall 28 = .ok (.ireturn, 1) := by decide +kernel
theorem dX1_flipWall_0 : decode cX1_flipWall 0 = .ok (.aload_n 0, 1) := by decide +kernel
theorem dX1_flipWall_1 : decode cX1_flipWall 1 = .ok (.iload_n 1, 1) := by decide +kernel
theorem dX1_flipWall_2 : decode cX1_flipWall 2 = .ok (.iload_n 2, 1) := by decide +kernel
theorem dX1_flipWall_3 : decode cX1_flipWall 3 = .ok (.invokevirtual 31, 3) := by decide +kernel
theorem dX1_flipWall_6 : decode cX1_flipWall 6 = .ok (.aload_n 0, 1) := by decide +kernel
theorem dX1_flipWall_7 : decode cX1_flipWall 7 = .ok (.iload_n 1, 1) := by decide +kernel
theorem dX1_flipWall_8 : decode cX1_flipWall 8 = .ok (.iload_n 2, 1) := by decide +kernel
theorem dX1_flipWall_9 : decode cX1_flipWall 9 = .ok (.invokestatic 35, 3) := by decide +kernel
theorem dX1_flipWall_12 : decode cX1_flipWall 12 = .ok (.iload_n 2, 1) := by decide +kernel
theorem dX1_flipWall_13 : decode cX1_flipWall 13 = .ok (.iconst 2, 1) := by decide +kernel
theorem dX1_flipWall_14 : decode cX1_flipWall 14 = .ok (.invokestatic 39, 3) := by decide +kernel
theorem dX1_flipWall_17 : decode cX1_flipWall 17 = .ok (.invokevirtual 31, 3) := by decide +kernel
theorem dX1_flipWall_20 : decode cX1_flipWall 20 = .ok (.return_, 1) := by decide +kernel
theorem dX1_flipSide_0 : decode cX1_flipSide 0 = .ok (.iload_n 1, 1) := by decide +kernel
theorem dX1_flipSide_1 : decode cX1_flipSide 1 = .ok (.ifCond .lt 21, 3) := by decide +kernel
theorem dX1_flipSide_4 : decode cX1_flipSide 4 = .ok (.iload_n 1, 1) := by decide +kernel
theorem dX1_flipSide_5 : decode cX1_flipSide 5 = .ok (.bipush 64, 2) := by decide +kernel
theorem dX1_flipSide_7 : decode cX1_flipSide 7 = .ok (.if_icmp .ge 15, 3) := by decide +kernel
theorem dX1_flipSide_10 : decode cX1_flipSide 10 = .ok (.aload_n 0, 1) := by decide +kernel
theorem dX1_flipSide_11 : decode cX1_flipSide 11 = .ok (.getfield 15, 3) := by decide +kernel
theorem dX1_flipSide_14 : decode cX1_flipSide 14 = .ok (.iload_n 1, 1) := by decide +kernel
theorem dX1_flipSide_15 : decode cX1_flipSide 15 = .ok (.dup2, 1) := by decide +kernel
theorem dX1_flipSide_16 : decode cX1_flipSide 16 = .ok (.iaload, 1) := by decide +kernel
theorem dX1_flipSide_17 : decode cX1_flipSide 17 = .ok (.iconst 1, 1) := by decide +kernel
theorem dX1_flipSide_18 : decode cX1_flipSide 18 = .ok (.iload_n 2, 1) := by decide +kernel
theorem dX1_flipSide_19 : decode cX1_flipSide 19 = .ok (.ishl, 1) := by decide +kernel
theorem dX1_flipSide_20 : decode cX1_flipSide 20 = .ok (.ixor, 1) := by decide +kernel
theorem dX1_flipSide_21 : decode cX1_flipSide 21 = .ok (.iastore, 1) := by decide +kernel
theorem dX1_flipSide_22 : decode cX1_flipSide 22 = .ok (.return_, 1) := by decide +kernel
theorem dX1_lowestFlagOn_0 : decode cX1_lowestFlagOn 0 = .ok (.iconst 0, 1) := by decide +kernel
theorem dX1_lowestFlagOn_1 : decode cX1_lowestFlagOn 1 = .ok (.istore_n 2, 1) := by decide +kernel
theorem dX1_lowestFlagOn_2 : decode cX1_lowestFlagOn 2 = .ok (.iload_n 2, 1) := by decide +kernel
theorem dX1_lowestFlagOn_3 : decode cX1_lowestFlagOn 3 = .ok (.aload_n 0, 1) := by decide +kernel
theorem dX1_lowestFlagOn_4 : decode cX1_lowestFlagOn 4 = .ok (.getfield 27, 3) := by decide +kernel
theorem dX1_lowestFlagOn_7 : decode cX1_lowestFlagOn 7 = .ok (.if_icmp .ge 21, 3) := by decide +kernel
theorem dX1_lowestFlagOn_10 : decode cX1_lowestFlagOn 10 = .ok (.aload_n 0, 1) := by decide +kernel
theorem dX1_lowestFlagOn_11 : decode cX1_lowestFlagOn 11 = .ok (.getfield 18, 3) := by decide +kernel
theorem dX1_lowestFlagOn_14 : decode cX1_lowestFlagOn 14 = .ok (.iload_n 2, 1) := by decide +kernel
theorem dX1_lowestFlagOn_15 : decode cX1_lowestFlagOn 15 = .ok (.iaload, 1) := by decide +kernel
theorem dX1_lowestFlagOn_16 : decode cX1_lowestFlagOn 16 = .ok (.iload_n 1, 1) := by decide +kernel
theorem dX1_lowestFlagOn_17 : decode cX1_lowestFlagOn 17 = .ok (.if_icmp .ne 5, 3) := by decide +kernel
theorem dX1_lowestFlagOn_20 : decode cX1_lowestFlagOn 20 = .ok (.iload_n 2, 1) := by decide +kernel
theorem dX1_lowestFlagOn_21 : decode cX1_lowestFlagOn 21 = .ok (.ireturn, 1) := by decide +kernel
theorem dX1_lowestFlagOn_22 : decode cX1_lowestFlagOn 22 = .ok (.iinc 2 1, 3) := by decide +kernel
theorem dX1_lowestFlagOn_25 : decode cX1_lowestFlagOn 25 = .ok (.goto (-23), 3) := by decide +kernel
theorem dX1_lowestFlagOn_28 : decode cX1_lowestFlagOn 28 = .ok (.ldc 42, 2) := by decide +kernel
theorem dX1_lowestFlagOn_30 : decode cX1_lowestFlagOn 30 = .ok (.ireturn, 1) := by decide +kernel
theorem dX1_neighbour_0 : decode cX1_neighbour 0 = .ok (.iload_n 0, 1) := by decide +kernel
theorem dX1_neighbour_1 : decode cX1_neighbour 1 = .ok (.ifCond .lt 9, 3) := by decide +kernel
theorem dX1_neighbour_4 : decode cX1_neighbour 4 = .ok (.iload_n 0, 1) := by decide +kernel
theorem dX1_neighbour_5 : decode cX1_neighbour 5 = .ok (.bipush 64, 2) := by decide +kernel
theorem dX1_neighbour_7 : decode cX1_neighbour 7 = .ok (.if_icmp .lt 5, 3) := by decide +kernel
theorem dX1_neighbour_10 : decode cX1_neighbour 10 = .ok (.iconst (-1), 1) := by decide +kernel
theorem dX1_neighbour_11 : decode cX1_neighbour 11 = .ok (.ireturn, 1) := by decide +kernel
theorem dX1_neighbour_12 : decode cX1_neighbour 12 = .ok (.iload_n 0, 1) := by decide +kernel
theorem dX1_neighbour_13 : decode cX1_neighbour 13 = .ok (.bipush 8, 2) := by decide +kernel
theorem dX1_neighbour_15 : decode cX1_neighbour 15 = .ok (.irem, 1) := by decide +kernel
theorem dX1_neighbour_16 : decode cX1_neighbour 16 = .ok (.istore_n 2, 1) := by decide +kernel
theorem dX1_neighbour_17 : decode cX1_neighbour 17 = .ok (.iload_n 1, 1) := by decide +kernel
theorem dX1_neighbour_18 : decode cX1_neighbour 18 = .ok (.tableswitch 86 0 3 #[30, 45, 59, 74], 30) := by decide +kernel
theorem dX1_neighbour_48 : decode cX1_neighbour 48 = .ok (.iload_n 0, 1) := by decide +kernel
theorem dX1_neighbour_49 : decode cX1_neighbour 49 = .ok (.bipush 8, 2) := by decide +kernel
theorem dX1_neighbour_51 : decode cX1_neighbour 51 = .ok (.if_icmp .lt 10, 3) := by decide +kernel
theorem dX1_neighbour_54 : decode cX1_neighbour 54 = .ok (.iload_n 0, 1) := by decide +kernel
theorem dX1_neighbour_55 : decode cX1_neighbour 55 = .ok (.bipush 8, 2) := by decide +kernel
theorem dX1_neighbour_57 : decode cX1_neighbour 57 = .ok (.isub, 1) := by decide +kernel
theorem dX1_neighbour_58 : decode cX1_neighbour 58 = .ok (.goto 4, 3) := by decide +kernel
theorem dX1_neighbour_61 : decode cX1_neighbour 61 = .ok (.iconst (-1), 1) := by decide +kernel
theorem dX1_neighbour_62 : decode cX1_neighbour 62 = .ok (.ireturn, 1) := by decide +kernel
theorem dX1_neighbour_63 : decode cX1_neighbour 63 = .ok (.iload_n 2, 1) := by decide +kernel
theorem dX1_neighbour_64 : decode cX1_neighbour 64 = .ok (.bipush 7, 2) := by decide +kernel
theorem dX1_neighbour_66 : decode cX1_neighbour 66 = .ok (.if_icmp .ge 9, 3) := by decide +kernel
theorem dX1_neighbour_69 : decode cX1_neighbour 69 = .ok (.iload_n 0, 1) := by decide +kernel
theorem dX1_neighbour_70 : decode cX1_neighbour 70 = .ok (.iconst 1, 1) := by decide +kernel
theorem dX1_neighbour_71 : decode cX1_neighbour 71 = .ok (.iadd, 1) := by decide +kernel
theorem dX1_neighbour_72 : decode cX1_neighbour 72 = .ok (.goto 4, 3) := by decide +kernel
theorem dX1_neighbour_75 : decode cX1_neighbour 75 = .ok (.iconst (-1), 1) := by decide +kernel
theorem dX1_neighbour_76 : decode cX1_neighbour 76 = .ok (.ireturn, 1) := by decide +kernel
theorem dX1_neighbour_77 : decode cX1_neighbour 77 = .ok (.iload_n 0, 1) := by decide +kernel
theorem dX1_neighbour_78 : decode cX1_neighbour 78 = .ok (.bipush 56, 2) := by decide +kernel
theorem dX1_neighbour_80 : decode cX1_neighbour 80 = .ok (.if_icmp .ge 10, 3) := by decide +kernel
theorem dX1_neighbour_83 : decode cX1_neighbour 83 = .ok (.iload_n 0, 1) := by decide +kernel
theorem dX1_neighbour_84 : decode cX1_neighbour 84 = .ok (.bipush 8, 2) := by decide +kernel
theorem dX1_neighbour_86 : decode cX1_neighbour 86 = .ok (.iadd, 1) := by decide +kernel
theorem dX1_neighbour_87 : decode cX1_neighbour 87 = .ok (.goto 4, 3) := by decide +kernel
theorem dX1_neighbour_90 : decode cX1_neighbour 90 = .ok (.iconst (-1), 1) := by decide +kernel
theorem dX1_neighbour_91 : decode cX1_neighbour 91 = .ok (.ireturn, 1) := by decide +kernel
theorem dX1_neighbour_92 : decode cX1_neighbour 92 = .ok (.iload_n 2, 1) := by decide +kernel
theorem dX1_neighbour_93 : decode cX1_neighbour 93 = .ok (.ifCond .le 9, 3) := by decide +kernel
theorem dX1_neighbour_96 : decode cX1_neighbour 96 = .ok (.iload_n 0, 1) := by decide +kernel
theorem dX1_neighbour_97 : decode cX1_neighbour 97 = .ok (.iconst 1, 1) := by decide +kernel
theorem dX1_neighbour_98 : decode cX1_neighbour 98 = .ok (.isub, 1) := by decide +kernel
theorem dX1_neighbour_99 : decode cX1_neighbour 99 = .ok (.goto 4, 3) := by decide +kernel
theorem dX1_neighbour_102 : decode cX1_neighbour 102 = .ok (.iconst (-1), 1) := by decide +kernel
theorem dX1_neighbour_103 : decode cX1_neighbour 103 = .ok (.ireturn, 1) := by decide +kernel
theorem dX1_neighbour_104 : decode cX1_neighbour 104 = .ok (.iconst (-1), 1) := by decide +kernel
theorem dX1_neighbour_105 : decode cX1_neighbour 105 = .ok (.ireturn, 1) := by decide +kernel
theorem dX1_distance_0 : decode cX1_distance 0 = .ok (.iload_n 0, 1) := by decide +kernel
theorem dX1_distance_1 : decode cX1_distance 1 = .ok (.bipush 8, 2) := by decide +kernel
theorem dX1_distance_3 : decode cX1_distance 3 = .ok (.irem, 1) := by decide +kernel
theorem dX1_distance_4 : decode cX1_distance 4 = .ok (.iload_n 1, 1) := by decide +kernel
theorem dX1_distance_5 : decode cX1_distance 5 = .ok (.bipush 8, 2) := by decide +kernel
theorem dX1_distance_7 : decode cX1_distance 7 = .ok (.irem, 1) := by decide +kernel
theorem dX1_distance_8 : decode cX1_distance 8 = .ok (.isub, 1) := by decide +kernel
theorem dX1_distance_9 : decode cX1_distance 9 = .ok (.invokestatic 43, 3) := by decide +kernel
theorem dX1_distance_12 : decode cX1_distance 12 = .ok (.iload_n 0, 1) := by decide +kernel
theorem dX1_distance_13 : decode cX1_distance 13 = .ok (.bipush 8, 2) := by decide +kernel
theorem dX1_distance_15 : decode cX1_distance 15 = .ok (.idiv, 1) := by decide +kernel
theorem dX1_distance_16 : decode cX1_distance 16 = .ok (.iload_n 1, 1) := by decide +kernel
theorem dX1_distance_17 : decode cX1_distance 17 = .ok (.bipush 8, 2) := by decide +kernel
theorem dX1_distance_19 : decode cX1_distance 19 = .ok (.idiv, 1) := by decide +kernel
theorem dX1_distance_20 : decode cX1_distance 20 = .ok (.isub, 1) := by decide +kernel
theorem dX1_distance_21 : decode cX1_distance 21 = .ok (.invokestatic 43, 3) := by decide +kernel
theorem dX1_distance_24 : decode cX1_distance 24 = .ok (.iadd, 1) := by decide +kernel
theorem dX1_distance_25 : decode cX1_distance 25 = .ok (.ireturn, 1) := by decide +kernel
theorem dX2_init_0 : decode cX2_init 0 = .ok (.aload_n 0, 1) := by decide +kernel
theorem dX2_init_1 : decode cX2_init 1 = .ok (.invokespecial 3, 3) := by decide +kernel
theorem dX2_init_4 : decode cX2_init 4 = .ok (.aload_n 0, 1) := by decide +kernel
theorem dX2_init_5 : decode cX2_init 5 = .ok (.iconst 4, 1) := by decide +kernel
theorem dX2_init_6 : decode cX2_init 6 = .ok (.newarray .int, 2) := by decide +kernel
theorem dX2_init_8 : decode cX2_init 8 = .ok (.putfield 9, 3) := by decide +kernel
theorem dX2_init_11 : decode cX2_init 11 = .ok (.aload_n 0, 1) := by decide +kernel
theorem dX2_init_12 : decode cX2_init 12 = .ok (.iconst 4, 1) := by decide +kernel
theorem dX2_init_13 : decode cX2_init 13 = .ok (.newarray .int, 2) := by decide +kernel
theorem dX2_init_15 : decode cX2_init 15 = .ok (.putfield 15, 3) := by decide +kernel
theorem dX2_init_18 : decode cX2_init 18 = .ok (.return_, 1) := by decide +kernel
theorem dX2_arrange_0 : decode cX2_arrange 0 = .ok (.iconst 0, 1) := by decide +kernel
theorem dX2_arrange_1 : decode cX2_arrange 1 = .ok (.istore_n 2, 1) := by decide +kernel
theorem dX2_arrange_2 : decode cX2_arrange 2 = .ok (.iconst 0, 1) := by decide +kernel
theorem dX2_arrange_3 : decode cX2_arrange 3 = .ok (.istore_n 3, 1) := by decide +kernel
theorem dX2_arrange_4 : decode cX2_arrange 4 = .ok (.iload_n 3, 1) := by decide +kernel
theorem dX2_arrange_5 : decode cX2_arrange 5 = .ok (.aload_n 1, 1) := by decide +kernel
theorem dX2_arrange_6 : decode cX2_arrange 6 = .ok (.getfield 18, 3) := by decide +kernel
theorem dX2_arrange_9 : decode cX2_arrange 9 = .ok (.if_icmp .ge 47, 3) := by decide +kernel
theorem dX2_arrange_12 : decode cX2_arrange 12 = .ok (.aload_n 1, 1) := by decide +kernel
theorem dX2_arrange_13 : decode cX2_arrange 13 = .ok (.getfield 24, 3) := by decide +kernel
theorem dX2_arrange_16 : decode cX2_arrange 16 = .ok (.iload_n 3, 1) := by decide +kernel
theorem dX2_arrange_17 : decode cX2_arrange 17 = .ok (.aaload, 1) := by decide +kernel
theorem dX2_arrange_18 : decode cX2_arrange 18 = .ok (.astore 4, 2) := by decide +kernel
theorem dX2_arrange_20 : decode cX2_arrange 20 = .ok (.aload 4, 2) := by decide +kernel
theorem dX2_arrange_22 : decode cX2_arrange 22 = .ok (.invokevirtual 28, 3) := by decide +kernel
theorem dX2_arrange_25 : decode cX2_arrange 25 = .ok (.ifCond .ne 25, 3) := by decide +kernel
theorem dX2_arrange_28 : decode cX2_arrange 28 = .ok (.aload 4, 2) := by decide +kernel
theorem dX2_arrange_30 : decode cX2_arrange 30 = .ok (.aload_n 1, 1) := by decide +kernel
theorem dX2_arrange_31 : decode cX2_arrange 31 = .ok (.getfield 34, 3) := by decide +kernel
theorem dX2_arrange_34 : decode cX2_arrange 34 = .ok (.invokevirtual 37, 3) := by decide +kernel
theorem dX2_arrange_37 : decode cX2_arrange 37 = .ok (.ifCond .eq 13, 3) := by decide +kernel
theorem dX2_arrange_40 : decode cX2_arrange 40 = .ok (.aload_n 0, 1) := by decide +kernel
theorem dX2_arrange_41 : decode cX2_arrange 41 = .ok (.aload_n 1, 1) := by decide +kernel
theorem dX2_arrange_42 : decode cX2_arrange 42 = .ok (.iload_n 3, 1) := by decide +kernel
theorem dX2_arrange_43 : decode cX2_arrange 43 = .ok (.iload_n 2, 1) := by decide +kernel
theorem dX2_arrange_44 : decode cX2_arrange 44 = .ok (.invokevirtual 41, 3) := by decide +kernel
theorem dX2_arrange_47 : decode cX2_arrange 47 = .ok (.iinc 2 1, 3) := by decide +kernel
theorem dX2_arrange_50 : decode cX2_arrange 50 = .ok (.iinc 3 1, 3) := by decide +kernel
theorem dX2_arrange_53 : decode cX2_arrange 53 = .ok (.goto (-49), 3) := by decide +kernel
theorem dX2_arrange_56 : decode cX2_arrange 56 = .ok (.iload_n 2, 1) := by decide +kernel
theorem dX2_arrange_57 : decode cX2_arrange 57 = .ok (.ireturn, 1) := by decide +kernel
theorem dX2_insert_0 : decode cX2_insert 0 = .ok (.aload_n 1, 1) := by decide +kernel
theorem dX2_insert_1 : decode cX2_insert 1 = .ok (.getfield 34, 3) := by decide +kernel
theorem dX2_insert_4 : decode cX2_insert 4 = .ok (.istore 4, 2) := by decide +kernel
theorem dX2_insert_6 : decode cX2_insert 6 = .ok (.aload_n 1, 1) := by decide +kernel
theorem dX2_insert_7 : decode cX2_insert 7 = .ok (.getfield 24, 3) := by decide +kernel
theorem dX2_insert_10 : decode cX2_insert 10 = .ok (.iload_n 2, 1) := by decide +kernel
theorem dX2_insert_11 : decode cX2_insert 11 = .ok (.aaload, 1) := by decide +kernel
theorem dX2_insert_12 : decode cX2_insert 12 = .ok (.getfield 45, 3) := by decide +kernel
theorem dX2_insert_15 : decode cX2_insert 15 = .ok (.iload 4, 2) := by decide +kernel
theorem dX2_insert_17 : decode cX2_insert 17 = .ok (.iaload, 1) := by decide +kernel
theorem dX2_insert_18 : decode cX2_insert 18 = .ok (.istore 5, 2) := by decide +kernel
theorem dX2_insert_20 : decode cX2_insert 20 = .ok (.iload_n 3, 1) := by decide +kernel
theorem dX2_insert_21 : decode cX2_insert 21 = .ok (.istore 6, 2) := by decide +kernel
theorem dX2_insert_23 : decode cX2_insert 23 = .ok (.iload 6, 2) := by decide +kernel
theorem dX2_insert_25 : decode cX2_insert 25 = .ok (.ifCond .le 50, 3) := by decide +kernel
theorem dX2_insert_28 : decode cX2_insert 28 = .ok (.aload_n 1, 1) := by decide +kernel
theorem dX2_insert_29 : decode cX2_insert 29 = .ok (.getfield 24, 3) := by decide +kernel
theorem dX2_insert_32 : decode cX2_insert 32 = .ok (.aload_n 0, 1) := by decide +kernel
theorem dX2_insert_33 : decode cX2_insert 33 = .ok (.getfield 9, 3) := by decide +kernel
theorem dX2_insert_36 : decode cX2_insert 36 = .ok (.iload 6, 2) := by decide +kernel
theorem dX2_insert_38 : decode cX2_insert 38 = .ok (.iconst 1, 1) := by decide +kernel
theorem dX2_insert_39 : decode cX2_insert 39 = .ok (.isub, 1) := by decide +kernel
theorem dX2_insert_40 : decode cX2_insert 40 = .ok (.iaload, 1) := by decide +kernel
theorem dX2_insert_41 : decode cX2_insert 41 = .ok (.aaload, 1) := by decide +kernel
theorem dX2_insert_42 : decode cX2_insert 42 = .ok (.getfield 45, 3) := by decide +kernel
theorem dX2_insert_45 : decode cX2_insert 45 = .ok (.iload 4, 2) := by decide +kernel
theorem dX2_insert_47 : decode cX2_insert 47 = .ok (.iaload, 1) := by decide +kernel
theorem dX2_insert_48 : decode cX2_insert 48 = .ok (.iload 5, 2) := by decide +kernel
theorem dX2_insert_50 : decode cX2_insert 50 = .ok (.if_icmp .ge 25, 3) := by decide +kernel
theorem dX2_insert_53 : decode cX2_insert 53 = .ok (.aload_n 0, 1) := by decide +kernel
theorem dX2_insert_54 : decode cX2_insert 54 = .ok (.getfield 9, 3) := by decide +kernel
theorem dX2_insert_57 : decode cX2_insert 57 = .ok (.iload 6, 2) := by decide +kernel
theorem dX2_insert_59 : decode cX2_insert 59 = .ok (.aload_n 0, 1) := by decide +kernel
theorem dX2_insert_60 : decode cX2_insert 60 = .ok (.getfield 9, 3) := by decide +kernel
theorem dX2_insert_63 : decode cX2_insert 63 = .ok (.iload 6, 2) := by decide +kernel
theorem dX2_insert_65 : decode cX2_insert 65 = .ok (.iconst 1, 1) := by decide +kernel
theorem dX2_insert_66 : decode cX2_insert 66 = .ok (.isub, 1) := by decide +kernel
theorem dX2_insert_67 : decode cX2_insert 67 = .ok (.iaload, 1) := by decide +kernel
theorem dX2_insert_68 : decode cX2_insert 68 = .ok (.iastore, 1) := by decide +kernel
theorem dX2_insert_69 : decode cX2_insert 69 = .ok (.iinc 6 (-1), 3) := by decide +kernel
theorem dX2_insert_72 : decode cX2_insert 72 = .ok (.goto (-49), 3) := by decide +kernel
theorem dX2_insert_75 : decode cX2_insert 75 = .ok (.aload_n 0, 1) := by decide +kernel
theorem dX2_insert_76 : decode cX2_insert 76 = .ok (.getfield 9, 3) := by decide +kernel
theorem dX2_insert_79 : decode cX2_insert 79 = .ok (.iload 6, 2) := by decide +kernel
theorem dX2_insert_81 : decode cX2_insert 81 = .ok (.iload_n 2, 1) := by decide +kernel
theorem dX2_insert_82 : decode cX2_insert 82 = .ok (.iastore, 1) := by decide +kernel
theorem dX2_insert_83 : decode cX2_insert 83 = .ok (.return_, 1) := by decide +kernel
theorem dX2_follow_0 : decode cX2_follow 0 = .ok (.aload_n 1, 1) := by decide +kernel
theorem dX2_follow_1 : decode cX2_follow 1 = .ok (.getfield 24, 3) := by decide +kernel
theorem dX2_follow_4 : decode cX2_follow 4 = .ok (.iload_n 2, 1) := by decide +kernel
theorem dX2_follow_5 : decode cX2_follow 5 = .ok (.aaload, 1) := by decide +kernel
theorem dX2_follow_6 : decode cX2_follow 6 = .ok (.astore_n 3, 1) := by decide +kernel
theorem dX2_follow_7 : decode cX2_follow 7 = .ok (.aload_n 3, 1) := by decide +kernel
theorem dX2_follow_8 : decode cX2_follow 8 = .ok (.invokevirtual 28, 3) := by decide +kernel
theorem dX2_follow_11 : decode cX2_follow 11 = .ok (.ifCond .eq 4, 3) := by decide +kernel
theorem dX2_follow_14 : decode cX2_follow 14 = .ok (.return_, 1) := by decide +kernel
theorem dX2_follow_15 : decode cX2_follow 15 = .ok (.aload_n 3, 1) := by decide +kernel
theorem dX2_follow_16 : decode cX2_follow 16 = .ok (.getfield 48, 3) := by decide +kernel
theorem dX2_follow_19 : decode cX2_follow 19 = .ok (.aload_n 1, 1) := by decide +kernel
theorem dX2_follow_20 : decode cX2_follow 20 = .ok (.getfield 34, 3) := by decide +kernel
theorem dX2_follow_23 : decode cX2_follow 23 = .ok (.iaload, 1) := by decide +kernel
theorem dX2_follow_24 : decode cX2_follow 24 = .ok (.istore 4, 2) := by decide +kernel
theorem dX2_follow_26 : decode cX2_follow 26 = .ok (.aload_n 3, 1) := by decide +kernel
theorem dX2_follow_27 : decode cX2_follow 27 = .ok (.getfield 51, 3) := by decide +kernel
theorem dX2_follow_30 : decode cX2_follow 30 = .ok (.istore 5, 2) := by decide +kernel
theorem dX2_follow_32 : decode cX2_follow 32 = .ok (.iconst 0, 1) := by decide +kernel
theorem dX2_follow_33 : decode cX2_follow 33 = .ok (.istore 6, 2) := by decide +kernel
theorem dX2_follow_35 : decode cX2_follow 35 = .ok (.iload 4, 2) := by decide +kernel
theorem dX2_follow_37 : decode cX2_follow 37 = .ok (.tableswitch 92 3 6 #[76, 31, 46, 61], 31) := by decide +kernel
theorem dX2_follow_68 : decode cX2_follow 68 = .ok (.aload_n 3, 1) := by decide +kernel
theorem dX2_follow_69 : decode cX2_follow 69 = .ok (.aload_n 3, 1) := by decide +kernel
theorem dX2_follow_70 : decode cX2_follow 70 = .ok (.getfield 51, 3) := by decide +kernel
theorem dX2_follow_73 : decode cX2_follow 73 = .ok (.iconst 3, 1) := by decide +kernel
theorem dX2_follow_74 : decode cX2_follow 74 = .ok (.invokestatic 54, 3) := by decide +kernel
theorem dX2_follow_77 : decode cX2_follow 77 = .ok (.putfield 51, 3) := by decide +kernel
theorem dX2_follow_80 : decode cX2_follow 80 = .ok (.goto 55, 3) := by decide +kernel
theorem dX2_follow_83 : decode cX2_follow 83 = .ok (.aload_n 3, 1) := by decide +kernel
theorem dX2_follow_84 : decode cX2_follow 84 = .ok (.aload_n 3, 1) := by decide +kernel
theorem dX2_follow_85 : decode cX2_follow 85 = .ok (.getfield 51, 3) := by decide +kernel
theorem dX2_follow_88 : decode cX2_follow 88 = .ok (.iconst 1, 1) := by decide +kernel
theorem dX2_follow_89 : decode cX2_follow 89 = .ok (.invokestatic 54, 3) := by decide +kernel
theorem dX2_follow_92 : decode cX2_follow 92 = .ok (.putfield 51, 3) := by decide +kernel
theorem dX2_follow_95 : decode cX2_follow 95 = .ok (.goto 40, 3) := by decide +kernel
theorem dX2_follow_98 : decode cX2_follow 98 = .ok (.aload_n 3, 1) := by decide +kernel
theorem dX2_follow_99 : decode cX2_follow 99 = .ok (.aload_n 3, 1) := by decide +kernel
theorem dX2_follow_100 : decode cX2_follow 100 = .ok (.getfield 51, 3) := by decide +kernel
theorem dX2_follow_103 : decode cX2_follow 103 = .ok (.iconst 2, 1) := by decide +kernel
theorem dX2_follow_104 : decode cX2_follow 104 = .ok (.invokestatic 54, 3) := by decide +kernel
theorem dX2_follow_107 : decode cX2_follow 107 = .ok (.putfield 51, 3) := by decide +kernel
theorem dX2_follow_110 : decode cX2_follow 110 = .ok (.goto 25, 3) := by decide +kernel
theorem dX2_follow_113 : decode cX2_follow 113 = .ok (.aload_n 3, 1) := by decide +kernel
theorem dX2_follow_114 : decode cX2_follow 114 = .ok (.getfield 51, 3) := by decide +kernel
theorem dX2_follow_117 : decode cX2_follow 117 = .ok (.iconst 2, 1) := by decide +kernel
theorem dX2_follow_118 : decode cX2_follow 118 = .ok (.invokestatic 54, 3) := by decide +kernel
theorem dX2_follow_121 : decode cX2_follow 121 = .ok (.istore 5, 2) := by decide +kernel
theorem dX2_follow_123 : decode cX2_follow 123 = .ok (.iconst 1, 1) := by decide +kernel
theorem dX2_follow_124 : decode cX2_follow 124 = .ok (.istore 6, 2) := by decide +kernel
theorem dX2_follow_126 : decode cX2_follow 126 = .ok (.goto 9, 3) := by decide +kernel
theorem dX2_follow_129 : decode cX2_follow 129 = .ok (.iload 4, 2) := by decide +kernel
theorem dX2_follow_131 : decode cX2_follow 131 = .ok (.iconst 1, 1) := by decide +kernel
theorem dX2_follow_132 : decode cX2_follow 132 = .ok (.iadd, 1) := by decide +kernel
theorem dX2_follow_133 : decode cX2_follow 133 = .ok (.istore 6, 2) := by decide +kernel
theorem dX2_follow_135 : decode cX2_follow 135 = .ok (.iconst 0, 1) := by decide +kernel
theorem dX2_follow_136 : decode cX2_follow 136 = .ok (.istore 7, 2) := by decide +kernel
theorem dX2_follow_138 : decode cX2_follow 138 = .ok (.iconst 0, 1) := by decide +kernel
theorem dX2_follow_139 : decode cX2_follow 139 = .ok (.istore 8, 2) := by decide +kernel
theorem dX2_follow_141 : decode cX2_follow 141 = .ok (.iload 8, 2) := by decide +kernel
theorem dX2_follow_143 : decode cX2_follow 143 = .ok (.iload 6, 2) := by decide +kernel
theorem dX2_follow_145 : decode cX2_follow 145 = .ok (.if_icmp .ge 39, 3) := by decide +kernel
theorem dX2_follow_148 : decode cX2_follow 148 = .ok (.iload 7, 2) := by decide +kernel
theorem dX2_follow_150 : decode cX2_follow 150 = .ok (.ifCond .ne 34, 3) := by decide +kernel
theorem dX2_follow_153 : decode cX2_follow 153 = .ok (.aload_n 3, 1) := by decide +kernel
theorem dX2_follow_154 : decode cX2_follow 154 = .ok (.invokevirtual 28, 3) := by decide +kernel
theorem dX2_follow_157 : decode cX2_follow 157 = .ok (.ifCond .ne 27, 3) := by decide +kernel
theorem dX2_follow_160 : decode cX2_follow 160 = .ok (.aload_n 0, 1) := by decide +kernel
theorem dX2_follow_161 : decode cX2_follow 161 = .ok (.aload_n 1, 1) := by decide +kernel
theorem dX2_follow_162 : decode cX2_follow 162 = .ok (.iload_n 2, 1) := by decide +kernel
theorem dX2_follow_163 : decode cX2_follow 163 = .ok (.iload 5, 2) := by decide +kernel
theorem dX2_follow_165 : decode cX2_follow 165 = .ok (.invokevirtual 58, 3) := by decide +kernel
theorem dX2_follow_168 : decode cX2_follow 168 = .ok (.ifCond .ne 7, 3) := by decide +kernel
theorem dX2_follow_171 : decode cX2_follow 171 = .ok (.iconst 1, 1) := by decide +kernel
theorem dX2_follow_172 : decode cX2_follow 172 = .ok (.goto 4, 3) := by decide +kernel
theorem dX2_follow_175 : decode cX2_follow 175 = .ok (.iconst 0, 1) := by decide +kernel
theorem dX2_follow_176 : decode cX2_follow 176 = .ok (.istore 7, 2) := by decide +kernel
theorem dX2_follow_178 : decode cX2_follow 178 = .ok (.iinc 8 1, 3) := by decide +kernel
theorem dX2_follow_181 : decode cX2_follow 181 = .ok (.goto (-40), 3) := by decide +kernel
theorem dX2_follow_184 : decode cX2_follow 184 = .ok (.iload 7, 2) := by decide +kernel
theorem dX2_follow_186 : decode cX2_follow 186 = .ok (.ifCond .eq 7, 3) := by decide +kernel
theorem dX2_follow_189 : decode cX2_follow 189 = .ok (.aload_n 3, 1) := by decide +kernel
theorem dX2_follow_190 : decode cX2_follow 190 = .ok (.invokevirtual 62, 3) := by decide +kernel
theorem dX2_follow_193 : decode cX2_follow 193 = .ok (.return_, 1) := by decide +kernel
theorem dX2_step_0 : decode cX2_step 0 = .ok (.iconst 0, 1) := by decide +kernel
theorem dX2_step_1 : decode cX2_step 1 = .ok (.istore 4, 2) := by decide +kernel
theorem dX2_step_3 : decode cX2_step 3 = .ok (.iload_n 2, 1) := by decide +kernel
theorem dX2_step_4 : decode cX2_step 4 = .ok (.istore 5, 2) := by decide +kernel
theorem dX2_step_6 : decode cX2_step 6 = .ok (.iload 5, 2) := by decide +kernel
theorem dX2_step_8 : decode cX2_step 8 = .ok (.iconst (-1), 1) := by decide +kernel
theorem dX2_step_9 : decode cX2_step 9 = .ok (.if_icmp .eq 63, 3) := by decide +kernel
theorem dX2_step_12 : decode cX2_step 12 = .ok (.iload 4, 2) := by decide +kernel
theorem dX2_step_14 : decode cX2_step 14 = .ok (.iconst 4, 1) := by decide +kernel
theorem dX2_step_15 : decode cX2_step 15 = .ok (.if_icmp .ge 57, 3) := by decide +kernel
theorem dX2_step_18 : decode cX2_step 18 = .ok (.aload_n 1, 1) := by decide +kernel
theorem dX2_step_19 : decode cX2_step 19 = .ok (.getfield 24, 3) := by decide +kernel
theorem dX2_step_22 : decode cX2_step 22 = .ok (.iload 5, 2) := by decide +kernel
theorem dX2_step_24 : decode cX2_step 24 = .ok (.aaload, 1) := by decide +kernel
theorem dX2_step_25 : decode cX2_step 25 = .ok (.getfield 65, 3) := by decide +kernel
theorem dX2_step_28 : decode cX2_step 28 = .ok (.istore 6, 2) := by decide +kernel
theorem dX2_step_30 : decode cX2_step 30 = .ok (.aload_n 1, 1) := by decide +kernel
theorem dX2_step_31 : decode cX2_step 31 = .ok (.getfield 68, 3) := by decide +kernel
theorem dX2_step_34 : decode cX2_step 34 = .ok (.iload 6, 2) := by decide +kernel
theorem dX2_step_36 : decode cX2_step 36 = .ok (.iload_n 3, 1) := by decide +kernel
theorem dX2_step_37 : decode cX2_step 37 = .ok (.invokevirtual 72, 3) := by decide +kernel
theorem dX2_step_40 : decode cX2_step 40 = .ok (.ifCond .eq 5, 3) := by decide +kernel
theorem dX2_step_43 : decode cX2_step 43 = .ok (.iconst 0, 1) := by decide +kernel
theorem dX2_step_44 : decode cX2_step 44 = .ok (.ireturn, 1) := by decide +kernel
theorem dX2_step_45 : decode cX2_step 45 = .ok (.aload_n 0, 1) := by decide +kernel
theorem dX2_step_46 : decode cX2_step 46 = .ok (.getfield 15, 3) := by decide +kernel
theorem dX2_step_49 : decode cX2_step 49 = .ok (.iload 4, 2) := by decide +kernel
theorem dX2_step_51 : decode cX2_step 51 = .ok (.iload 5, 2) := by decide +kernel
theorem dX2_step_53 : decode cX2_step 53 = .ok (.iastore, 1) := by decide +kernel
theorem dX2_step_54 : decode cX2_step 54 = .ok (.iinc 4 1, 3) := by decide +kernel
theorem dX2_step_57 : decode cX2_step 57 = .ok (.aload_n 1, 1) := by decide +kernel
theorem dX2_step_58 : decode cX2_step 58 = .ok (.iload 6, 2) := by decide +kernel
theorem dX2_step_60 : decode cX2_step 60 = .ok (.iload_n 3, 1) := by decide +kernel
theorem dX2_step_61 : decode cX2_step 61 = .ok (.invokestatic 78, 3) := by decide +kernel
theorem dX2_step_64 : decode cX2_step 64 = .ok (.invokevirtual 81, 3) := by decide +kernel
theorem dX2_step_67 : decode cX2_step 67 = .ok (.istore 5, 2) := by decide +kernel
theorem dX2_step_69 : decode cX2_step 69 = .ok (.goto (-63), 3) := by decide +kernel
theorem dX2_step_72 : decode cX2_step 72 = .ok (.iconst 0, 1) := by decide +kernel
theorem dX2_step_73 : decode cX2_step 73 = .ok (.istore 6, 2) := by decide +kernel
theorem dX2_step_75 : decode cX2_step 75 = .ok (.iload 6, 2) := by decide +kernel
theorem dX2_step_77 : decode cX2_step 77 = .ok (.iload 4, 2) := by decide +kernel
theorem dX2_step_79 : decode cX2_step 79 = .ok (.if_icmp .ge 38, 3) := by decide +kernel
theorem dX2_step_82 : decode cX2_step 82 = .ok (.aload_n 1, 1) := by decide +kernel
theorem dX2_step_83 : decode cX2_step 83 = .ok (.getfield 24, 3) := by decide +kernel
theorem dX2_step_86 : decode cX2_step 86 = .ok (.aload_n 0, 1) := by decide +kernel
theorem dX2_step_87 : decode cX2_step 87 = .ok (.getfield 15, 3) := by decide +kernel
theorem dX2_step_90 : decode cX2_step 90 = .ok (.iload 6, 2) := by decide +kernel
theorem dX2_step_92 : decode cX2_step 92 = .ok (.iaload, 1) := by decide +kernel
theorem dX2_step_93 : decode cX2_step 93 = .ok (.aaload, 1) := by decide +kernel
theorem dX2_step_94 : decode cX2_step 94 = .ok (.astore 7, 2) := by decide +kernel
theorem dX2_step_96 : decode cX2_step 96 = .ok (.aload_n 1, 1) := by decide +kernel
theorem dX2_step_97 : decode cX2_step 97 = .ok (.aload 7, 2) := by decide +kernel
theorem dX2_step_99 : decode cX2_step 99 = .ok (.aload 7, 2) := by decide +kernel
theorem dX2_step_101 : decode cX2_step 101 = .ok (.getfield 65, 3) := by decide +kernel
theorem dX2_step_104 : decode cX2_step 104 = .ok (.iload_n 3, 1) := by decide +kernel
theorem dX2_step_105 : decode cX2_step 105 = .ok (.invokestatic 78, 3) := by decide +kernel
theorem dX2_step_108 : decode cX2_step 108 = .ok (.invokevirtual 85, 3) := by decide +kernel
theorem dX2_step_111 : decode cX2_step 111 = .ok (.iinc 6 1, 3) := by decide +kernel
theorem dX2_step_114 : decode cX2_step 114 = .ok (.goto (-39), 3) := by decide +kernel
theorem dX2_step_117 : decode cX2_step 117 = .ok (.aload_n 1, 1) := by decide +kernel
theorem dX2_step_118 : decode cX2_step 118 = .ok (.dup, 1) := by decide +kernel
theorem dX2_step_119 : decode cX2_step 119 = .ok (.getfield 89, 3) := by decide +kernel
theorem dX2_step_122 : decode cX2_step 122 = .ok (.iload 4, 2) := by decide +kernel
theorem dX2_step_124 : decode cX2_step 124 = .ok (.iconst 1, 1) := by decide +kernel
theorem dX2_step_125 : decode cX2_step 125 = .ok (.isub, 1) := by decide +kernel
theorem dX2_step_126 : decode cX2_step 126 = .ok (.iadd, 1) := by decide +kernel
theorem dX2_step_127 : decode cX2_step 127 = .ok (.putfield 89, 3) := by decide +kernel
theorem dX2_step_130 : decode cX2_step 130 = .ok (.iconst 1, 1) := by decide +kernel
theorem dX2_step_131 : decode cX2_step 131 = .ok (.ireturn, 1) := by decide +kernel
theorem dX3_init_0 : decode cX3_init 0 = .ok (.aload_n 0, 1) := by decide +kernel
theorem dX3_init_1 : decode cX3_init 1 = .ok (.invokespecial 3, 3) := by decide +kernel
theorem dX3_init_4 : decode cX3_init 4 = .ok (.aload_n 0, 1) := by decide +kernel
theorem dX3_init_5 : decode cX3_init 5 = .ok (.iconst 5, 1) := by decide +kernel
theorem dX3_init_6 : decode cX3_init 6 = .ok (.newarray .int, 2) := by decide +kernel
theorem dX3_init_8 : decode cX3_init 8 = .ok (.putfield 9, 3) := by decide +kernel
theorem dX3_init_11 : decode cX3_init 11 = .ok (.aload_n 0, 1) := by decide +kernel
theorem dX3_init_12 : decode cX3_init 12 = .ok (.iconst 5, 1) := by decide +kernel
theorem dX3_init_13 : decode cX3_init 13 = .ok (.newarray .int, 2) := by decide +kernel
theorem dX3_init_15 : decode cX3_init 15 = .ok (.putfield 15, 3) := by decide +kernel
theorem dX3_init_18 : decode cX3_init 18 = .ok (.aload_n 0, 1) := by decide +kernel
theorem dX3_init_19 : decode cX3_init 19 = .ok (.iconst (-1), 1) := by decide +kernel
theorem dX3_init_20 : decode cX3_init 20 = .ok (.putfield 18, 3) := by decide +kernel
theorem dX3_init_23 : decode cX3_init 23 = .ok (.return_, 1) := by decide +kernel
theorem dX3_copyFrom_0 : decode cX3_copyFrom 0 = .ok (.aload_n 1, 1) := by decide +kernel
theorem dX3_copyFrom_1 : decode cX3_copyFrom 1 = .ok (.getfield 9, 3) := by decide +kernel
theorem dX3_copyFrom_4 : decode cX3_copyFrom 4 = .ok (.iconst 0, 1) := by decide +kernel
theorem dX3_copyFrom_5 : decode cX3_copyFrom 5 = .ok (.aload_n 0, 1) := by decide +kernel
theorem dX3_copyFrom_6 : decode cX3_copyFrom 6 = .ok (.getfield 9, 3) := by decide +kernel
theorem dX3_copyFrom_9 : decode cX3_copyFrom 9 = .ok (.iconst 0, 1) := by decide +kernel
theorem dX3_copyFrom_10 : decode cX3_copyFrom 10 = .ok (.iconst 5, 1) := by decide +kernel
theorem dX3_copyFrom_11 : decode cX3_copyFrom 11 = .ok (.invokestatic 22, 3) := by decide +kernel
theorem dX3_copyFrom_14 : decode cX3_copyFrom 14 = .ok (.aload_n 1, 1) := by decide +kernel
theorem dX3_copyFrom_15 : decode cX3_copyFrom 15 = .ok (.getfield 15, 3) := by decide +kernel
theorem dX3_copyFrom_18 : decode cX3_copyFrom 18 = .ok (.iconst 0, 1) := by decide +kernel
theorem dX3_copyFrom_19 : decode cX3_copyFrom 19 = .ok (.aload_n 0, 1) := by decide +kernel
theorem dX3_copyFrom_20 : decode cX3_copyFrom 20 = .ok (.getfield 15, 3) := by decide +kernel
theorem dX3_copyFrom_23 : decode cX3_copyFrom 23 = .ok (.iconst 0, 1) := by decide +kernel
theorem dX3_copyFrom_24 : decode cX3_copyFrom 24 = .ok (.iconst 5, 1) := by decide +kernel
theorem dX3_copyFrom_25 : decode cX3_copyFrom 25 = .ok (.invokestatic 22, 3) := by decide +kernel
theorem dX3_copyFrom_28 : decode cX3_copyFrom 28 = .ok (.aload_n 0, 1) := by decide +kernel
theorem dX3_copyFrom_29 : decode cX3_copyFrom 29 = .ok (.aload_n 1, 1) := by decide +kernel
theorem dX3_copyFrom_30 : decode cX3_copyFrom 30 = .ok (.getfield 28, 3) := by decide +kernel
theorem dX3_copyFrom_33 : decode cX3_copyFrom 33 = .ok (.putfield 28, 3) := by decide +kernel
theorem dX3_copyFrom_36 : decode cX3_copyFrom 36 = .ok (.aload_n 0, 1) := by decide +kernel
theorem dX3_copyFrom_37 : decode cX3_copyFrom 37 = .ok (.aload_n 1, 1) := by decide +kernel
theorem dX3_copyFrom_38 : decode cX3_copyFrom 38 = .ok (.getfield 18, 3) := by decide +kernel
theorem dX3_copyFrom_41 : decode cX3_copyFrom 41 = .ok (.putfield 18, 3) := by decide +kernel
theorem dX3_copyFrom_44 : decode cX3_copyFrom 44 = .ok (.aload_n 0, 1) := by decide +kernel
theorem dX3_copyFrom_45 : decode cX3_copyFrom 45 = .ok (.aload_n 1, 1) := by decide +kernel
theorem dX3_copyFrom_46 : decode cX3_copyFrom 46 = .ok (.getfield 31, 3) := by decide +kernel
theorem dX3_copyFrom_49 : decode cX3_copyFrom 49 = .ok (.putfield 31, 3) := by decide +kernel
theorem dX3_copyFrom_52 : decode cX3_copyFrom 52 = .ok (.aload_n 0, 1) := by decide +kernel
theorem dX3_copyFrom_53 : decode cX3_copyFrom 53 = .ok (.aload_n 1, 1) := by decide +kernel
theorem dX3_copyFrom_54 : decode cX3_copyFrom 54 = .ok (.getfield 34, 3) := by decide +kernel
theorem dX3_copyFrom_57 : decode cX3_copyFrom 57 = .ok (.putfield 34, 3) := by decide +kernel
theorem dX3_copyFrom_60 : decode cX3_copyFrom 60 = .ok (.aload_n 0, 1) := by decide +kernel
theorem dX3_copyFrom_61 : decode cX3_copyFrom 61 = .ok (.aload_n 1, 1) := by decide +kernel
theorem dX3_copyFrom_62 : decode cX3_copyFrom 62 = .ok (.getfield 37, 3) := by decide +kernel
theorem dX3_copyFrom_65 : decode cX3_copyFrom 65 = .ok (.putfield 37, 3) := by decide +kernel
theorem dX3_copyFrom_68 : decode cX3_copyFrom 68 = .ok (.aload_n 0, 1) := by decide +kernel
theorem dX3_copyFrom_69 : decode cX3_copyFrom 69 = .ok (.aload_n 1, 1) := by decide +kernel
theorem dX3_copyFrom_70 : decode cX3_copyFrom 70 = .ok (.getfield 40, 3) := by decide +kernel
theorem dX3_copyFrom_73 : decode cX3_copyFrom 73 = .ok (.putfield 40, 3) := by decide +kernel
theorem dX3_copyFrom_76 : decode cX3_copyFrom 76 = .ok (.aload_n 0, 1) := by decide +kernel
theorem dX3_copyFrom_77 : decode cX3_copyFrom 77 = .ok (.aload_n 1, 1) := by decide +kernel
theorem dX3_copyFrom_78 : decode cX3_copyFrom 78 = .ok (.getfield 43, 3) := by decide +kernel
theorem dX3_copyFrom_81 : decode cX3_copyFrom 81 = .ok (.putfield 43, 3) := by decide +kernel
theorem dX3_copyFrom_84 : decode cX3_copyFrom 84 = .ok (.return_, 1) := by decide +kernel
theorem dX3_begin_0 : decode cX3_begin 0 = .ok (.aload_n 0, 1) := by decide +kernel
theorem dX3_begin_1 : decode cX3_begin 1 = .ok (.iload_n 1, 1) := by decide +kernel
theorem dX3_begin_2 : decode cX3_begin 2 = .ok (.putfield 28, 3) := by decide +kernel
theorem dX3_begin_5 : decode cX3_begin 5 = .ok (.aload_n 0, 1) := by decide +kernel
theorem dX3_begin_6 : decode cX3_begin 6 = .ok (.iload_n 1, 1) := by decide +kernel
theorem dX3_begin_7 : decode cX3_begin 7 = .ok (.putfield 18, 3) := by decide +kernel
theorem dX3_begin_10 : decode cX3_begin 10 = .ok (.aload_n 0, 1) := by decide +kernel
theorem dX3_begin_11 : decode cX3_begin 11 = .ok (.iload_n 2, 1) := by decide +kernel
theorem dX3_begin_12 : decode cX3_begin 12 = .ok (.putfield 31, 3) := by decide +kernel
theorem dX3_begin_15 : decode cX3_begin 15 = .ok (.return_, 1) := by decide +kernel
theorem dX3_isOut_0 : decode cX3_isOut 0 = .ok (.aload_n 0, 1) := by decide +kernel
theorem dX3_isOut_1 : decode cX3_isOut 1 = .ok (.getfield 18, 3) := by decide +kernel
theorem dX3_isOut_4 : decode cX3_isOut 4 = .ok (.iconst (-1), 1) := by decide +kernel
theorem dX3_isOut_5 : decode cX3_isOut 5 = .ok (.if_icmp .ne 7, 3) := by decide +kernel
theorem dX3_isOut_8 : decode cX3_isOut 8 = .ok (.iconst 1, 1) := by decide +kernel
theorem dX3_isOut_9 : decode cX3_isOut 9 = .ok (.goto 4, 3) := by decide +kernel
theorem dX3_isOut_12 : decode cX3_isOut 12 = .ok (.iconst 0, 1) := by decide +kernel
theorem dX3_isOut_13 : decode cX3_isOut 13 = .ok (.ireturn, 1) := by decide +kernel
theorem dX3_hasCard_0 : decode cX3_hasCard 0 = .ok (.aload_n 0, 1) := by decide +kernel
theorem dX3_hasCard_1 : decode cX3_hasCard 1 = .ok (.getfield 15, 3) := by decide +kernel
theorem dX3_hasCard_4 : decode cX3_hasCard 4 = .ok (.iload_n 1, 1) := by decide +kernel
theorem dX3_hasCard_5 : decode cX3_hasCard 5 = .ok (.iaload, 1) := by decide +kernel
theorem dX3_hasCard_6 : decode cX3_hasCard 6 = .ok (.ifCond .le 7, 3) := by decide +kernel
theorem dX3_hasCard_9 : decode cX3_hasCard 9 = .ok (.iconst 1, 1) := by decide +kernel
theorem dX3_hasCard_10 : decode cX3_hasCard 10 = .ok (.goto 4, 3) := by decide +kernel
theorem dX3_hasCard_13 : decode cX3_hasCard 13 = .ok (.iconst 0, 1) := by decide +kernel
theorem dX3_hasCard_14 : decode cX3_hasCard 14 = .ok (.ireturn, 1) := by decide +kernel
theorem dX3_unlockedRegisters_0 : decode cX3_unlockedRegisters 0 = .ok (.iconst 5, 1) := by decide +kernel
theorem dX3_unlockedRegisters_1 : decode cX3_unlockedRegisters 1 = .ok (.iconst 0, 1) := by decide +kernel
theorem dX3_unlockedRegisters_2 : decode cX3_unlockedRegisters 2 = .ok (.aload_n 0, 1) := by decide +kernel
theorem dX3_unlockedRegisters_3 : decode cX3_unlockedRegisters 3 = .ok (.getfield 34, 3) := by decide +kernel
theorem dX3_unlockedRegisters_6 : decode cX3_unlockedRegisters 6 = .ok (.iconst 4, 1) := by decide +kernel
theorem dX3_unlockedRegisters_7 : decode cX3_unlockedRegisters 7 = .ok (.isub, 1) := by decide +kernel
theorem dX3_unlockedRegisters_8 : decode cX3_unlockedRegisters 8 = .ok (.invokestatic 46, 3) := by decide +kernel
theorem dX3_unlockedRegisters_11 : decode cX3_unlockedRegisters 11 = .ok (.isub, 1) := by decide +kernel
theorem dX3_unlockedRegisters_12 : decode cX3_unlockedRegisters 12 = .ok (.ireturn, 1) := by decide +kernel
theorem dX3_isLocked_0 : decode cX3_isLocked 0 = .ok (.iload_n 1, 1) := by decide +kernel
theorem dX3_isLocked_1 : decode cX3_isLocked 1 = .ok (.aload_n 0, 1) := by decide +kernel
theorem dX3_isLocked_2 : decode cX3_isLocked 2 = .ok (.invokevirtual 52, 3) := by decide +kernel
theorem dX3_isLocked_5 : decode cX3_isLocked 5 = .ok (.if_icmp .lt 7, 3) := by decide +kernel
theorem dX3_isLocked_8 : decode cX3_isLocked 8 = .ok (.iconst 1, 1) := by decide +kernel
theorem dX3_isLocked_9 : decode cX3_isLocked 9 = .ok (.goto 4, 3) := by decide +kernel
theorem dX3_isLocked_12 : decode cX3_isLocked 12 = .ok (.iconst 0, 1) := by decide +kernel
theorem dX3_isLocked_13 : decode cX3_isLocked 13 = .ok (.ireturn, 1) := by decide +kernel
theorem dX3_lay_0 : decode cX3_lay 0 = .ok (.aload_n 0, 1) := by decide +kernel
theorem dX3_lay_1 : decode cX3_lay 1 = .ok (.getfield 9, 3) := by decide +kernel
theorem dX3_lay_4 : decode cX3_lay 4 = .ok (.iload_n 1, 1) := by decide +kernel
theorem dX3_lay_5 : decode cX3_lay 5 = .ok (.iload_n 2, 1) := by decide +kernel
theorem dX3_lay_6 : decode cX3_lay 6 = .ok (.iastore, 1) := by decide +kernel
theorem dX3_lay_7 : decode cX3_lay 7 = .ok (.aload_n 0, 1) := by decide +kernel
theorem dX3_lay_8 : decode cX3_lay 8 = .ok (.getfield 15, 3) := by decide +kernel
theorem dX3_lay_11 : decode cX3_lay 11 = .ok (.iload_n 1, 1) := by decide +kernel
theorem dX3_lay_12 : decode cX3_lay 12 = .ok (.iload_n 3, 1) := by decide +kernel
theorem dX3_lay_13 : decode cX3_lay 13 = .ok (.iastore, 1) := by decide +kernel
theorem dX3_lay_14 : decode cX3_lay 14 = .ok (.return_, 1) := by decide +kernel
theorem dX3_emptyRegisters_0 : decode cX3_emptyRegisters 0 = .ok (.aload_n 0, 1) := by decide +kernel
theorem dX3_emptyRegisters_1 : decode cX3_emptyRegisters 1 = .ok (.getfield 15, 3) := by decide +kernel
theorem dX3_emptyRegisters_4 : decode cX3_emptyRegisters 4 = .ok (.iconst 0, 1) := by decide +kernel
theorem dX3_emptyRegisters_5 : decode cX3_emptyRegisters 5 = .ok (.iload_n 1, 1) := by decide +kernel
theorem dX3_emptyRegisters_6 : decode cX3_emptyRegisters 6 = .ok (.iconst 0, 1) := by decide +kernel
theorem dX3_emptyRegisters_7 : decode cX3_emptyRegisters 7 = .ok (.invokestatic 56, 3) := by decide +kernel
theorem dX3_emptyRegisters_10 : decode cX3_emptyRegisters 10 = .ok (.return_, 1) := by decide +kernel
theorem dX3_addDamage_0 : decode cX3_addDamage 0 = .ok (.aload_n 0, 1) := by decide +kernel
theorem dX3_addDamage_1 : decode cX3_addDamage 1 = .ok (.iconst 0, 1) := by decide +kernel
theorem dX3_addDamage_2 : decode cX3_addDamage 2 = .ok (.bipush 9, 2) := by decide +kernel
theorem dX3_addDamage_4 : decode cX3_addDamage 4 = .ok (.aload_n 0, 1) := by decide +kernel
theorem dX3_addDamage_5 : decode cX3_addDamage 5 = .ok (.getfield 34, 3) := by decide +kernel
theorem dX3_addDamage_8 : decode cX3_addDamage 8 = .ok (.iload_n 1, 1) := by decide +kernel
theorem dX3_addDamage_9 : decode cX3_addDamage 9 = .ok (.iadd, 1) := by decide +kernel
theorem dX3_addDamage_10 : decode cX3_addDamage 10 = .ok (.invokestatic 62, 3) := by decide +kernel
theorem dX3_addDamage_13 : decode cX3_addDamage 13 = .ok (.invokestatic 46, 3) := by decide +kernel
theorem dX3_addDamage_16 : decode cX3_addDamage 16 = .ok (.putfield 34, 3) := by decide +kernel
theorem dX3_addDamage_19 : decode cX3_addDamage 19 = .ok (.return_, 1) := by decide +kernel
theorem dX3_bump_0 : decode cX3_bump 0 = .ok (.aload_n 0, 1) := by decide +kernel
theorem dX3_bump_1 : decode cX3_bump 1 = .ok (.dup, 1) := by decide +kernel
theorem dX3_bump_2 : decode cX3_bump 2 = .ok (.getfield 43, 3) := by decide +kernel
theorem dX3_bump_5 : decode cX3_bump 5 = .ok (.iconst 1, 1) := by decide +kernel
theorem dX3_bump_6 : decode cX3_bump 6 = .ok (.iadd, 1) := by decide +kernel
theorem dX3_bump_7 : decode cX3_bump 7 = .ok (.putfield 43, 3) := by decide +kernel
theorem dX3_bump_10 : decode cX3_bump 10 = .ok (.aload_n 0, 1) := by decide +kernel
theorem dX3_bump_11 : decode cX3_bump 11 = .ok (.iconst 1, 1) := by decide +kernel
theorem dX3_bump_12 : decode cX3_bump 12 = .ok (.invokevirtual 65, 3) := by decide +kernel
theorem dX3_bump_15 : decode cX3_bump 15 = .ok (.return_, 1) := by decide +kernel
theorem dX3_lockedSet_0 : decode cX3_lockedSet 0 = .ok (.iconst 0, 1) := by decide +kernel
theorem dX3_lockedSet_1 : decode cX3_lockedSet 1 = .ok (.istore_n 1, 1) := by decide +kernel
theorem dX3_lockedSet_2 : decode cX3_lockedSet 2 = .ok (.aload_n 0, 1) := by decide +kernel
theorem dX3_lockedSet_3 : decode cX3_lockedSet 3 = .ok (.invokevirtual 52, 3) := by decide +kernel
theorem dX3_lockedSet_6 : decode cX3_lockedSet 6 = .ok (.istore_n 2, 1) := by decide +kernel
theorem dX3_lockedSet_7 : decode cX3_lockedSet 7 = .ok (.iload_n 2, 1) := by decide +kernel
theorem dX3_lockedSet_8 : decode cX3_lockedSet 8 = .ok (.iconst 5, 1) := by decide +kernel
theorem dX3_lockedSet_9 : decode cX3_lockedSet 9 = .ok (.if_icmp .ge 15, 3) := by decide +kernel
theorem dX3_lockedSet_12 : decode cX3_lockedSet 12 = .ok (.iload_n 1, 1) := by decide +kernel
theorem dX3_lockedSet_13 : decode cX3_lockedSet 13 = .ok (.iconst 1, 1) := by decide +kernel
theorem dX3_lockedSet_14 : decode cX3_lockedSet 14 = .ok (.iload_n 2, 1) := by decide +kernel
theorem dX3_lockedSet_15 : decode cX3_lockedSet 15 = .ok (.ishl, 1) := by decide +kernel
theorem dX3_lockedSet_16 : decode cX3_lockedSet 16 = .ok (.ior, 1) := by decide +kernel
theorem dX3_lockedSet_17 : decode cX3_lockedSet 17 = .ok (.istore_n 1, 1) := by decide +kernel
theorem dX3_lockedSet_18 : decode cX3_lockedSet 18 = .ok (.iinc 2 1, 3) := by decide +kernel
theorem dX3_lockedSet_21 : decode cX3_lockedSet 21 = .ok (.goto (-14), 3) := by decide +kernel
theorem dX3_lockedSet_24 : decode cX3_lockedSet 24 = .ok (.iload_n 1, 1) := by decide +kernel
theorem dX3_lockedSet_25 : decode cX3_lockedSet 25 = .ok (.ireturn, 1) := by decide +kernel
theorem dX3_cardSet_0 : decode cX3_cardSet 0 = .ok (.iconst 0, 1) := by decide +kernel
theorem dX3_cardSet_1 : decode cX3_cardSet 1 = .ok (.istore_n 1, 1) := by decide +kernel
theorem dX3_cardSet_2 : decode cX3_cardSet 2 = .ok (.iconst 0, 1) := by decide +kernel
theorem dX3_cardSet_3 : decode cX3_cardSet 3 = .ok (.istore_n 2, 1) := by decide +kernel
theorem dX3_cardSet_4 : decode cX3_cardSet 4 = .ok (.iload_n 2, 1) := by decide +kernel
theorem dX3_cardSet_5 : decode cX3_cardSet 5 = .ok (.iconst 5, 1) := by decide +kernel
theorem dX3_cardSet_6 : decode cX3_cardSet 6 = .ok (.if_icmp .ge 24, 3) := by decide +kernel
theorem dX3_cardSet_9 : decode cX3_cardSet 9 = .ok (.aload_n 0, 1) := by decide +kernel
theorem dX3_cardSet_10 : decode cX3_cardSet 10 = .ok (.getfield 15, 3) := by decide +kernel
theorem dX3_cardSet_13 : decode cX3_cardSet 13 = .ok (.iload_n 2, 1) := by decide +kernel
theorem dX3_cardSet_14 : decode cX3_cardSet 14 = .ok (.iaload, 1) := by decide +kernel
theorem dX3_cardSet_15 : decode cX3_cardSet 15 = .ok (.ifCond .le 9, 3) := by decide +kernel
theorem dX3_cardSet_18 : decode cX3_cardSet 18 = .ok (.iload_n 1, 1) := by decide +kernel
theorem dX3_cardSet_19 : decode cX3_cardSet 19 = .ok (.iconst 1, 1) := by decide +kernel
theorem dX3_cardSet_20 : decode cX3_cardSet 20 = .ok (.iload_n 2, 1) := by decide +kernel
theorem dX3_cardSet_21 : decode cX3_cardSet 21 = .ok (.ishl, 1) := by decide +kernel
theorem dX3_cardSet_22 : decode cX3_cardSet 22 = .ok (.ior, 1) := by decide +kernel
theorem dX3_cardSet_23 : decode cX3_cardSet 23 = .ok (.istore_n 1, 1) := by decide +kernel
theorem dX3_cardSet_24 : decode cX3_cardSet 24 = .ok (.iinc 2 1, 3) := by decide +kernel
theorem dX3_cardSet_27 : decode cX3_cardSet 27 = .ok (.goto (-23), 3) := by decide +kernel
theorem dX3_cardSet_30 : decode cX3_cardSet 30 = .ok (.iload_n 1, 1) := by decide +kernel
theorem dX3_cardSet_31 : decode cX3_cardSet 31 = .ok (.ireturn, 1) := by decide +kernel
theorem dX3_value_0 : decode cX3_value 0 = .ok (.iload_n 1, 1) := by decide +kernel
theorem dX3_value_1 : decode cX3_value 1 = .ok (.tableswitch 120 0 8 #[51, 68, 85, 90, 95, 100, 105, 110, 115], 51) := by decide +kernel
theorem dX3_value_52 : decode cX3_value 52 = .ok (.aload_n 0, 1) := by decide +kernel
theorem dX3_value_53 : decode cX3_value 53 = .ok (.invokevirtual 69, 3) := by decide +kernel
theorem dX3_value_56 : decode cX3_value 56 = .ok (.ifCond .eq 8, 3) := by decide +kernel
theorem dX3_value_59 : decode cX3_value 59 = .ok (.ldc 73, 2) := by decide +kernel
theorem dX3_value_61 : decode cX3_value 61 = .ok (.goto 7, 3) := by decide +kernel
theorem dX3_value_64 : decode cX3_value 64 = .ok (.aload_n 0, 1) := by decide +kernel
