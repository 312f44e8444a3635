theorem dX11_init_0 : decode cX11_init 0 = .ok (.aload_n 0, 1) := by decide +kernel
theorem dX11_init_1 : decode cX11_init 1 = .ok (.invokespecial 1, 3) := by decide +kernel
theorem dX11_init_4 : decode cX11_init 4 = .ok (.aload_n 0, 1) := by decide +kernel
theorem dX11_init_5 : decode cX11_init 5 = .ok (.sipush 207, 3) := by decide +kernel
theorem dX11_init_8 : decode cX11_init 8 = .ok (.newarray .int, 2) := by decide +kernel
theorem dX11_init_10 : decode cX11_init 10 = .ok (.putfield 7, 3) := by decide +kernel
theorem dX11_init_13 : decode cX11_init 13 = .ok (.aload_n 0, 1) := by decide +kernel
theorem dX11_init_14 : decode cX11_init 14 = .ok (.sipush 207, 3) := by decide +kernel
theorem dX11_init_17 : decode cX11_init 17 = .ok (.newarray .int, 2) := by decide +kernel
theorem dX11_init_19 : decode cX11_init 19 = .ok (.putfield 13, 3) := by decide +kernel
theorem dX11_init_22 : decode cX11_init 22 = .ok (.aload_n 0, 1) := by decide +kernel
theorem dX11_init_23 : decode cX11_init 23 = .ok (.sipush 207, 3) := by decide +kernel
theorem dX11_init_26 : decode cX11_init 26 = .ok (.newarray .int, 2) := by decide +kernel
theorem dX11_init_28 : decode cX11_init 28 = .ok (.putfield 16, 3) := by decide +kernel
theorem dX11_init_31 : decode cX11_init 31 = .ok (.aload_n 0, 1) := by decide +kernel
theorem dX11_init_32 : decode cX11_init 32 = .ok (.sipush 828, 3) := by decide +kernel
theorem dX11_init_35 : decode cX11_init 35 = .ok (.newarray .int, 2) := by decide +kernel
theorem dX11_init_37 : decode cX11_init 37 = .ok (.putfield 19, 3) := by decide +kernel
theorem dX11_init_40 : decode cX11_init 40 = .ok (.aload_n 0, 1) := by decide +kernel
theorem dX11_init_41 : decode cX11_init 41 = .ok (.bipush 60, 2) := by decide +kernel
theorem dX11_init_43 : decode cX11_init 43 = .ok (.newarray .int, 2) := by decide +kernel
theorem dX11_init_45 : decode cX11_init 45 = .ok (.putfield 22, 3) := by decide +kernel
theorem dX11_init_48 : decode cX11_init 48 = .ok (.aload_n 0, 1) := by decide +kernel
theorem dX11_init_49 : decode cX11_init 49 = .ok (.iconst 4, 1) := by decide +kernel
theorem dX11_init_50 : decode cX11_init 50 = .ok (.newarray .int, 2) := by decide +kernel
theorem dX11_init_52 : decode cX11_init 52 = .ok (.putfield 25, 3) := by decide +kernel
theorem dX11_init_55 : decode cX11_init 55 = .ok (.aload_n 0, 1) := by decide +kernel
theorem dX11_init_56 : decode cX11_init 56 = .ok (.iconst 4, 1) := by decide +kernel
theorem dX11_init_57 : decode cX11_init 57 = .ok (.newarray .int, 2) := by decide +kernel
theorem dX11_init_59 : decode cX11_init 59 = .ok (.putfield 28, 3) := by decide +kernel
theorem dX11_init_62 : decode cX11_init 62 = .ok (.aload_n 0, 1) := by decide +kernel
theorem dX11_init_63 : decode cX11_init 63 = .ok (.iconst 4, 1) := by decide +kernel
theorem dX11_init_64 : decode cX11_init 64 = .ok (.newarray .boolean, 2) := by decide +kernel
theorem dX11_init_66 : decode cX11_init 66 = .ok (.putfield 31, 3) := by decide +kernel
theorem dX11_init_69 : decode cX11_init 69 = .ok (.aload_n 0, 1) := by decide +kernel
theorem dX11_init_70 : decode cX11_init 70 = .ok (.iconst 4, 1) := by decide +kernel
theorem dX11_init_71 : decode cX11_init 71 = .ok (.newarray .int, 2) := by decide +kernel
theorem dX11_init_73 : decode cX11_init 73 = .ok (.putfield 35, 3) := by decide +kernel
theorem dX11_init_76 : decode cX11_init 76 = .ok (.aload_n 0, 1) := by decide +kernel
theorem dX11_init_77 : decode cX11_init 77 = .ok (.bipush 64, 2) := by decide +kernel
theorem dX11_init_79 : decode cX11_init 79 = .ok (.newarray .int, 2) := by decide +kernel
theorem dX11_init_81 : decode cX11_init 81 = .ok (.putfield 38, 3) := by decide +kernel
theorem dX11_init_84 : decode cX11_init 84 = .ok (.aload_n 0, 1) := by decide +kernel
theorem dX11_init_85 : decode cX11_init 85 = .ok (.iconst 4, 1) := by decide +kernel
theorem dX11_init_86 : decode cX11_init 86 = .ok (.newarray .int, 2) := by decide +kernel
theorem dX11_init_88 : decode cX11_init 88 = .ok (.putfield 41, 3) := by decide +kernel
theorem dX11_init_91 : decode cX11_init 91 = .ok (.aload_n 0, 1) := by decide +kernel
theorem dX11_init_92 : decode cX11_init 92 = .ok (.getfield 7, 3) := by decide +kernel
theorem dX11_init_95 : decode cX11_init 95 = .ok (.iconst 4, 1) := by decide +kernel
theorem dX11_init_96 : decode cX11_init 96 = .ok (.iconst (-1), 1) := by decide +kernel
theorem dX11_init_97 : decode cX11_init 97 = .ok (.iastore, 1) := by decide +kernel
theorem dX11_init_98 : decode cX11_init 98 = .ok (.iconst 0, 1) := by decide +kernel
theorem dX11_init_99 : decode cX11_init 99 = .ok (.istore_n 1, 1) := by decide +kernel
theorem dX11_init_100 : decode cX11_init 100 = .ok (.iload_n 1, 1) := by decide +kernel
theorem dX11_init_101 : decode cX11_init 101 = .ok (.iconst 4, 1) := by decide +kernel
theorem dX11_init_102 : decode cX11_init 102 = .ok (.if_icmp .ge 19, 3) := by decide +kernel
theorem dX11_init_105 : decode cX11_init 105 = .ok (.aload_n 0, 1) := by decide +kernel
theorem dX11_init_106 : decode cX11_init 106 = .ok (.getfield 7, 3) := by decide +kernel
theorem dX11_init_109 : decode cX11_init 109 = .ok (.bipush 7, 2) := by decide +kernel
theorem dX11_init_111 : decode cX11_init 111 = .ok (.iload_n 1, 1) := by decide +kernel
theorem dX11_init_112 : decode cX11_init 112 = .ok (.iadd, 1) := by decide +kernel
theorem dX11_init_113 : decode cX11_init 113 = .ok (.iconst (-1), 1) := by decide +kernel
theorem dX11_init_114 : decode cX11_init 114 = .ok (.iastore, 1) := by decide +kernel
theorem dX11_init_115 : decode cX11_init 115 = .ok (.iinc 1 1, 3) := by decide +kernel
theorem dX11_init_118 : decode cX11_init 118 = .ok (.goto (-18), 3) := by decide +kernel
theorem dX11_init_121 : decode cX11_init 121 = .ok (.return_, 1) := by decide +kernel
theorem dX11_in_0 : decode cX11_in 0 = .ok (.iload_n 0, 1) := by decide +kernel
theorem dX11_in_1 : decode cX11_in 1 = .ok (.iload_n 1, 1) := by decide +kernel
theorem dX11_in_2 : decode cX11_in 2 = .ok (.if_icmp .lt 12, 3) := by decide +kernel
theorem dX11_in_5 : decode cX11_in 5 = .ok (.iload_n 0, 1) := by decide +kernel
theorem dX11_in_6 : decode cX11_in 6 = .ok (.iload_n 2, 1) := by decide +kernel
theorem dX11_in_7 : decode cX11_in 7 = .ok (.if_icmp .gt 7, 3) := by decide +kernel
theorem dX11_in_10 : decode cX11_in 10 = .ok (.iconst 1, 1) := by decide +kernel
theorem dX11_in_11 : decode cX11_in 11 = .ok (.goto 4, 3) := by decide +kernel
theorem dX11_in_14 : decode cX11_in 14 = .ok (.iconst 0, 1) := by decide +kernel
theorem dX11_in_15 : decode cX11_in 15 = .ok (.ireturn, 1) := by decide +kernel
theorem dX11_isCell_0 : decode cX11_isCell 0 = .ok (.iload_n 0, 1) := by decide +kernel
theorem dX11_isCell_1 : decode cX11_isCell 1 = .ok (.iconst 0, 1) := by decide +kernel
theorem dX11_isCell_2 : decode cX11_isCell 2 = .ok (.bipush 63, 2) := by decide +kernel
theorem dX11_isCell_4 : decode cX11_isCell 4 = .ok (.invokestatic 44, 3) := by decide +kernel
theorem dX11_isCell_7 : decode cX11_isCell 7 = .ok (.ireturn, 1) := by decide +kernel
theorem dX11_begins_0 : decode cX11_begins 0 = .ok (.iconst 0, 1) := by decide +kernel
theorem dX11_begins_1 : decode cX11_begins 1 = .ok (.istore_n 1, 1) := by decide +kernel
theorem dX11_begins_2 : decode cX11_begins 2 = .ok (.iload_n 1, 1) := by decide +kernel
theorem dX11_begins_3 : decode cX11_begins 3 = .ok (.sipush 207, 3) := by decide +kernel
theorem dX11_begins_6 : decode cX11_begins 6 = .ok (.if_icmp .ge 21, 3) := by decide +kernel
theorem dX11_begins_9 : decode cX11_begins 9 = .ok (.aload_n 0, 1) := by decide +kernel
theorem dX11_begins_10 : decode cX11_begins 10 = .ok (.getfield 13, 3) := by decide +kernel
theorem dX11_begins_13 : decode cX11_begins 13 = .ok (.iload_n 1, 1) := by decide +kernel
theorem dX11_begins_14 : decode cX11_begins 14 = .ok (.aload_n 0, 1) := by decide +kernel
theorem dX11_begins_15 : decode cX11_begins 15 = .ok (.getfield 7, 3) := by decide +kernel
theorem dX11_begins_18 : decode cX11_begins 18 = .ok (.iload_n 1, 1) := by decide +kernel
theorem dX11_begins_19 : decode cX11_begins 19 = .ok (.iaload, 1) := by decide +kernel
theorem dX11_begins_20 : decode cX11_begins 20 = .ok (.iastore, 1) := by decide +kernel
theorem dX11_begins_21 : decode cX11_begins 21 = .ok (.iinc 1 1, 3) := by decide +kernel
theorem dX11_begins_24 : decode cX11_begins 24 = .ok (.goto (-22), 3) := by decide +kernel
theorem dX11_begins_27 : decode cX11_begins 27 = .ok (.return_, 1) := by decide +kernel
theorem dX11_returns_0 : decode cX11_returns 0 = .ok (.iconst 0, 1) := by decide +kernel
theorem dX11_returns_1 : decode cX11_returns 1 = .ok (.istore_n 1, 1) := by decide +kernel
theorem dX11_returns_2 : decode cX11_returns 2 = .ok (.iload_n 1, 1) := by decide +kernel
theorem dX11_returns_3 : decode cX11_returns 3 = .ok (.sipush 207, 3) := by decide +kernel
theorem dX11_returns_6 : decode cX11_returns 6 = .ok (.if_icmp .ge 21, 3) := by decide +kernel
theorem dX11_returns_9 : decode cX11_returns 9 = .ok (.aload_n 0, 1) := by decide +kernel
theorem dX11_returns_10 : decode cX11_returns 10 = .ok (.getfield 7, 3) := by decide +kernel
theorem dX11_returns_13 : decode cX11_returns 13 = .ok (.iload_n 1, 1) := by decide +kernel
theorem dX11_returns_14 : decode cX11_returns 14 = .ok (.aload_n 0, 1) := by decide +kernel
theorem dX11_returns_15 : decode cX11_returns 15 = .ok (.getfield 13, 3) := by decide +kernel
theorem dX11_returns_18 : decode cX11_returns 18 = .ok (.iload_n 1, 1) := by decide +kernel
theorem dX11_returns_19 : decode cX11_returns 19 = .ok (.iaload, 1) := by decide +kernel
theorem dX11_returns_20 : decode cX11_returns 20 = .ok (.iastore, 1) := by decide +kernel
theorem dX11_returns_21 : decode cX11_returns 21 = .ok (.iinc 1 1, 3) := by decide +kernel
theorem dX11_returns_24 : decode cX11_returns 24 = .ok (.goto (-22), 3) := by decide +kernel
theorem dX11_returns_27 : decode cX11_returns 27 = .ok (.return_, 1) := by decide +kernel
theorem dX11_putsAside_0 : decode cX11_putsAside 0 = .ok (.iconst 0, 1) := by decide +kernel
theorem dX11_putsAside_1 : decode cX11_putsAside 1 = .ok (.istore_n 1, 1) := by decide +kernel
theorem dX11_putsAside_2 : decode cX11_putsAside 2 = .ok (.iload_n 1, 1) := by decide +kernel
theorem dX11_putsAside_3 : decode cX11_putsAside 3 = .ok (.sipush 207, 3) := by decide +kernel
theorem dX11_putsAside_6 : decode cX11_putsAside 6 = .ok (.if_icmp .ge 21, 3) := by decide +kernel
theorem dX11_putsAside_9 : decode cX11_putsAside 9 = .ok (.aload_n 0, 1) := by decide +kernel
theorem dX11_putsAside_10 : decode cX11_putsAside 10 = .ok (.getfield 16, 3) := by decide +kernel
theorem dX11_putsAside_13 : decode cX11_putsAside 13 = .ok (.iload_n 1, 1) := by decide +kernel
theorem dX11_putsAside_14 : decode cX11_putsAside 14 = .ok (.aload_n 0, 1) := by decide +kernel
theorem dX11_putsAside_15 : decode cX11_putsAside 15 = .ok (.getfield 7, 3) := by decide +kernel
theorem dX11_putsAside_18 : decode cX11_putsAside 18 = .ok (.iload_n 1, 1) := by decide +kernel
theorem dX11_putsAside_19 : decode cX11_putsAside 19 = .ok (.iaload, 1) := by decide +kernel
theorem dX11_putsAside_20 : decode cX11_putsAside 20 = .ok (.iastore, 1) := by decide +kernel
theorem dX11_putsAside_21 : decode cX11_putsAside 21 = .ok (.iinc 1 1, 3) := by decide +kernel
theorem dX11_putsAside_24 : decode cX11_putsAside 24 = .ok (.goto (-22), 3) := by decide +kernel
theorem dX11_putsAside_27 : decode cX11_putsAside 27 = .ok (.return_, 1) := by decide +kernel
theorem dX11_takesBack_0 : decode cX11_takesBack 0 = .ok (.iconst 0, 1) := by decide +kernel
theorem dX11_takesBack_1 : decode cX11_takesBack 1 = .ok (.istore_n 1, 1) := by decide +kernel
theorem dX11_takesBack_2 : decode cX11_takesBack 2 = .ok (.iload_n 1, 1) := by decide +kernel
theorem dX11_takesBack_3 : decode cX11_takesBack 3 = .ok (.sipush 207, 3) := by decide +kernel
theorem dX11_takesBack_6 : decode cX11_takesBack 6 = .ok (.if_icmp .ge 21, 3) := by decide +kernel
theorem dX11_takesBack_9 : decode cX11_takesBack 9 = .ok (.aload_n 0, 1) := by decide +kernel
theorem dX11_takesBack_10 : decode cX11_takesBack 10 = .ok (.getfield 7, 3) := by decide +kernel
theorem dX11_takesBack_13 : decode cX11_takesBack 13 = .ok (.iload_n 1, 1) := by decide +kernel
theorem dX11_takesBack_14 : decode cX11_takesBack 14 = .ok (.aload_n 0, 1) := by decide +kernel
theorem dX11_takesBack_15 : decode cX11_takesBack 15 = .ok (.getfield 16, 3) := by decide +kernel
theorem dX11_takesBack_18 : decode cX11_takesBack 18 = .ok (.iload_n 1, 1) := by decide +kernel
theorem dX11_takesBack_19 : decode cX11_takesBack 19 = .ok (.iaload, 1) := by decide +kernel
theorem dX11_takesBack_20 : decode cX11_takesBack 20 = .ok (.iastore, 1) := by decide +kernel
theorem dX11_takesBack_21 : decode cX11_takesBack 21 = .ok (.iinc 1 1, 3) := by decide +kernel
theorem dX11_takesBack_24 : decode cX11_takesBack 24 = .ok (.goto (-22), 3) := by decide +kernel
theorem dX11_takesBack_27 : decode cX11_takesBack 27 = .ok (.return_, 1) := by decide +kernel
theorem dX11_acted_0 : decode cX11_acted 0 = .ok (.iload_n 1, 1) := by decide +kernel
theorem dX11_acted_1 : decode cX11_acted 1 = .ok (.ldc 48, 2) := by decide +kernel
theorem dX11_acted_3 : decode cX11_acted 3 = .ok (.if_icmp .gt 9, 3) := by decide +kernel
theorem dX11_acted_6 : decode cX11_acted 6 = .ok (.aload_n 0, 1) := by decide +kernel
theorem dX11_acted_7 : decode cX11_acted 7 = .ok (.invokevirtual 49, 3) := by decide +kernel
theorem dX11_acted_10 : decode cX11_acted 10 = .ok (.iload_n 1, 1) := by decide +kernel
theorem dX11_acted_11 : decode cX11_acted 11 = .ok (.ireturn, 1) := by decide +kernel
theorem dX11_acted_12 : decode cX11_acted 12 = .ok (.aload_n 0, 1) := by decide +kernel
theorem dX11_acted_13 : decode cX11_acted 13 = .ok (.getfield 52, 3) := by decide +kernel
theorem dX11_acted_16 : decode cX11_acted 16 = .ok (.iconst 4, 1) := by decide +kernel
theorem dX11_acted_17 : decode cX11_acted 17 = .ok (.if_icmp .ne 44, 3) := by decide +kernel
theorem dX11_acted_20 : decode cX11_acted 20 = .ok (.iconst 0, 1) := by decide +kernel
theorem dX11_acted_21 : decode cX11_acted 21 = .ok (.istore_n 2, 1) := by decide +kernel
theorem dX11_acted_22 : decode cX11_acted 22 = .ok (.iload_n 2, 1) := by decide +kernel
theorem dX11_acted_23 : decode cX11_acted 23 = .ok (.sipush 621, 3) := by decide +kernel
theorem dX11_acted_26 : decode cX11_acted 26 = .ok (.if_icmp .ge 25, 3) := by decide +kernel
theorem dX11_acted_29 : decode cX11_acted 29 = .ok (.aload_n 0, 1) := by decide +kernel
theorem dX11_acted_30 : decode cX11_acted 30 = .ok (.getfield 19, 3) := by decide +kernel
theorem dX11_acted_33 : decode cX11_acted 33 = .ok (.iload_n 2, 1) := by decide +kernel
theorem dX11_acted_34 : decode cX11_acted 34 = .ok (.aload_n 0, 1) := by decide +kernel
theorem dX11_acted_35 : decode cX11_acted 35 = .ok (.getfield 19, 3) := by decide +kernel
theorem dX11_acted_38 : decode cX11_acted 38 = .ok (.iload_n 2, 1) := by decide +kernel
theorem dX11_acted_39 : decode cX11_acted 39 = .ok (.sipush 207, 3) := by decide +kernel
theorem dX11_acted_42 : decode cX11_acted 42 = .ok (.iadd, 1) := by decide +kernel
theorem dX11_acted_43 : decode cX11_acted 43 = .ok (.iaload, 1) := by decide +kernel
theorem dX11_acted_44 : decode cX11_acted 44 = .ok (.iastore, 1) := by decide +kernel
theorem dX11_acted_45 : decode cX11_acted 45 = .ok (.iinc 2 1, 3) := by decide +kernel
theorem dX11_acted_48 : decode cX11_acted 48 = .ok (.goto (-26), 3) := by decide +kernel
theorem dX11_acted_51 : decode cX11_acted 51 = .ok (.aload_n 0, 1) := by decide +kernel
theorem dX11_acted_52 : decode cX11_acted 52 = .ok (.dup, 1) := by decide +kernel
theorem dX11_acted_53 : decode cX11_acted 53 = .ok (.getfield 52, 3) := by decide +kernel
theorem dX11_acted_56 : decode cX11_acted 56 = .ok (.iconst 1, 1) := by decide +kernel
theorem dX11_acted_57 : decode cX11_acted 57 = .ok (.isub, 1) := by decide +kernel
theorem dX11_acted_58 : decode cX11_acted 58 = .ok (.putfield 52, 3) := by decide +kernel
theorem dX11_acted_61 : decode cX11_acted 61 = .ok (.iconst 0, 1) := by decide +kernel
theorem dX11_acted_62 : decode cX11_acted 62 = .ok (.istore_n 2, 1) := by decide +kernel
theorem dX11_acted_63 : decode cX11_acted 63 = .ok (.iload_n 2, 1) := by decide +kernel
theorem dX11_acted_64 : decode cX11_acted 64 = .ok (.sipush 207, 3) := by decide +kernel
theorem dX11_acted_67 : decode cX11_acted 67 = .ok (.if_icmp .ge 30, 3) := by decide +kernel
theorem dX11_acted_70 : decode cX11_acted 70 = .ok (.aload_n 0, 1) := by decide +kernel
theorem dX11_acted_71 : decode cX11_acted 71 = .ok (.getfield 19, 3) := by decide +kernel
theorem dX11_acted_74 : decode cX11_acted 74 = .ok (.sipush 207, 3) := by decide +kernel
theorem dX11_acted_77 : decode cX11_acted 77 = .ok (.aload_n 0, 1) := by decide +kernel
theorem dX11_acted_78 : decode cX11_acted 78 = .ok (.getfield 52, 3) := by decide +kernel
theorem dX11_acted_81 : decode cX11_acted 81 = .ok (.imul, 1) := by decide +kernel
theorem dX11_acted_82 : decode cX11_acted 82 = .ok (.iload_n 2, 1) := by decide +kernel
theorem dX11_acted_83 : decode cX11_acted 83 = .ok (.iadd, 1) := by decide +kernel
theorem dX11_acted_84 : decode cX11_acted 84 = .ok (.aload_n 0, 1) := by decide +kernel
theorem dX11_acted_85 : decode cX11_acted 85 = .ok (.getfield 13, 3) := by decide +kernel
theorem dX11_acted_88 : decode cX11_acted 88 = .ok (.iload_n 2, 1) := by decide +kernel
theorem dX11_acted_89 : decode cX11_acted 89 = .ok (.iaload, 1) := by decide +kernel
theorem dX11_acted_90 : decode cX11_acted 90 = .ok (.iastore, 1) := by decide +kernel
theorem dX11_acted_91 : decode cX11_acted 91 = .ok (.iinc 2 1, 3) := by decide +kernel
theorem dX11_acted_94 : decode cX11_acted 94 = .ok (.goto (-31), 3) := by decide +kernel
theorem dX11_acted_97 : decode cX11_acted 97 = .ok (.aload_n 0, 1) := by decide +kernel
theorem dX11_acted_98 : decode cX11_acted 98 = .ok (.dup, 1) := by decide +kernel
theorem dX11_acted_99 : decode cX11_acted 99 = .ok (.getfield 52, 3) := by decide +kernel
theorem dX11_acted_102 : decode cX11_acted 102 = .ok (.iconst 1, 1) := by decide +kernel
theorem dX11_acted_103 : decode cX11_acted 103 = .ok (.iadd, 1) := by decide +kernel
theorem dX11_acted_104 : decode cX11_acted 104 = .ok (.putfield 52, 3) := by decide +kernel
theorem dX11_acted_107 : decode cX11_acted 107 = .ok (.iload_n 1, 1) := by decide +kernel
theorem dX11_acted_108 : decode cX11_acted 108 = .ok (.ireturn, 1) := by decide +kernel
theorem dX11_of_0 : decode cX11_of 0 = .ok (.aload_n 0, 1) := by decide +kernel
theorem dX11_of_1 : decode cX11_of 1 = .ok (.getfield 7, 3) := by decide +kernel
theorem dX11_of_4 : decode cX11_of 4 = .ok (.sipush 139, 3) := by decide +kernel
theorem dX11_of_7 : decode cX11_of 7 = .ok (.bipush 17, 2) := by decide +kernel
theorem dX11_of_9 : decode cX11_of 9 = .ok (.iload_n 1, 1) := by decide +kernel
theorem dX11_of_10 : decode cX11_of 10 = .ok (.imul, 1) := by decide +kernel
theorem dX11_of_11 : decode cX11_of 11 = .ok (.iadd, 1) := by decide +kernel
theorem dX11_of_12 : decode cX11_of 12 = .ok (.iload_n 2, 1) := by decide +kernel
theorem dX11_of_13 : decode cX11_of 13 = .ok (.iadd, 1) := by decide +kernel
theorem dX11_of_14 : decode cX11_of 14 = .ok (.iaload, 1) := by decide +kernel
theorem dX11_of_15 : decode cX11_of 15 = .ok (.ireturn, 1) := by decide +kernel
theorem dX11_lays_0 : decode cX11_lays 0 = .ok (.aload_n 0, 1) := by decide +kernel
theorem dX11_lays_1 : decode cX11_lays 1 = .ok (.getfield 7, 3) := by decide +kernel
theorem dX11_lays_4 : decode cX11_lays 4 = .ok (.sipush 139, 3) := by decide +kernel
theorem dX11_lays_7 : decode cX11_lays 7 = .ok (.bipush 17, 2) := by decide +kernel
theorem dX11_lays_9 : decode cX11_lays 9 = .ok (.iload_n 1, 1) := by decide +kernel
theorem dX11_lays_10 : decode cX11_lays 10 = .ok (.imul, 1) := by decide +kernel
theorem dX11_lays_11 : decode cX11_lays 11 = .ok (.iadd, 1) := by decide +kernel
theorem dX11_lays_12 : decode cX11_lays 12 = .ok (.iload_n 2, 1) := by decide +kernel
theorem dX11_lays_13 : decode cX11_lays 13 = .ok (.iadd, 1) := by decide +kernel
theorem dX11_lays_14 : decode cX11_lays 14 = .ok (.iload_n 3, 1) := by decide +kernel
theorem dX11_lays_15 : decode cX11_lays 15 = .ok (.iastore, 1) := by decide +kernel
theorem dX11_lays_16 : decode cX11_lays 16 = .ok (.return_, 1) := by decide +kernel
theorem dX11_more_0 : decode cX11_more 0 = .ok (.aload_n 0, 1) := by decide +kernel
theorem dX11_more_1 : decode cX11_more 1 = .ok (.getfield 7, 3) := by decide +kernel
theorem dX11_more_4 : decode cX11_more 4 = .ok (.sipush 139, 3) := by decide +kernel
theorem dX11_more_7 : decode cX11_more 7 = .ok (.bipush 17, 2) := by decide +kernel
theorem dX11_more_9 : decode cX11_more 9 = .ok (.iload_n 1, 1) := by decide +kernel
theorem dX11_more_10 : decode cX11_more 10 = .ok (.imul, 1) := by decide +kernel
theorem dX11_more_11 : decode cX11_more 11 = .ok (.iadd, 1) := by decide +kernel
theorem dX11_more_12 : decode cX11_more 12 = .ok (.iload_n 2, 1) := by decide +kernel
theorem dX11_more_13 : decode cX11_more 13 = .ok (.iadd, 1) := by decide +kernel
theorem dX11_more_14 : decode cX11_more 14 = .ok (.dup2, 1) := by decide +kernel
theorem dX11_more_15 : decode cX11_more 15 = .ok (.iaload, 1) := by decide +kernel
theorem dX11_more_16 : decode cX11_more 16 = .ok (.iconst 1, 1) := by decide +kernel
theorem dX11_more_17 : decode cX11_more 17 = .ok (.iadd, 1) := by decide +kernel
theorem dX11_more_18 : decode cX11_more 18 = .ok (.iastore, 1) := by decide +kernel
theorem dX11_more_19 : decode cX11_more 19 = .ok (.return_, 1) := by decide +kernel
theorem dX11_isCart_0 : decode cX11_isCart 0 = .ok (.iload_n 1, 1) := by decide +kernel
theorem dX11_isCart_1 : decode cX11_isCart 1 = .ok (.iconst 0, 1) := by decide +kernel
theorem dX11_isCart_2 : decode cX11_isCart 2 = .ok (.aload_n 0, 1) := by decide +kernel
theorem dX11_isCart_3 : decode cX11_isCart 3 = .ok (.getfield 7, 3) := by decide +kernel
theorem dX11_isCart_6 : decode cX11_isCart 6 = .ok (.iconst 0, 1) := by decide +kernel
theorem dX11_isCart_7 : decode cX11_isCart 7 = .ok (.iaload, 1) := by decide +kernel
theorem dX11_isCart_8 : decode cX11_isCart 8 = .ok (.iconst 1, 1) := by decide +kernel
theorem dX11_isCart_9 : decode cX11_isCart 9 = .ok (.isub, 1) := by decide +kernel
theorem dX11_isCart_10 : decode cX11_isCart 10 = .ok (.invokestatic 44, 3) := by decide +kernel
theorem dX11_isCart_13 : decode cX11_isCart 13 = .ok (.ireturn, 1) := by decide +kernel
theorem dX11_isOut_0 : decode cX11_isOut 0 = .ok (.aload_n 0, 1) := by decide +kernel
theorem dX11_isOut_1 : decode cX11_isOut 1 = .ok (.iload_n 1, 1) := by decide +kernel
theorem dX11_isOut_2 : decode cX11_isOut 2 = .ok (.iconst 1, 1) := by decide +kernel
theorem dX11_isOut_3 : decode cX11_isOut 3 = .ok (.invokevirtual 56, 3) := by decide +kernel
theorem dX11_isOut_6 : decode cX11_isOut 6 = .ok (.ifCond .ge 7, 3) := by decide +kernel
theorem dX11_isOut_9 : decode cX11_isOut 9 = .ok (.iconst 1, 1) := by decide +kernel
theorem dX11_isOut_10 : decode cX11_isOut 10 = .ok (.goto 4, 3) := by decide +kernel
theorem dX11_isOut_13 : decode cX11_isOut 13 = .ok (.iconst 0, 1) := by decide +kernel
theorem dX11_isOut_14 : decode cX11_isOut 14 = .ok (.ireturn, 1) := by decide +kernel
theorem dX11_rank_0 : decode cX11_rank 0 = .ok (.aload_n 0, 1) := by decide +kernel
theorem dX11_rank_1 : decode cX11_rank 1 = .ok (.iload_n 1, 1) := by decide +kernel
theorem dX11_rank_2 : decode cX11_rank 2 = .ok (.bipush 7, 2) := by decide +kernel
theorem dX11_rank_4 : decode cX11_rank 4 = .ok (.iconst 2, 1) := by decide +kernel
theorem dX11_rank_5 : decode cX11_rank 5 = .ok (.iload_n 2, 1) := by decide +kernel
theorem dX11_rank_6 : decode cX11_rank 6 = .ok (.imul, 1) := by decide +kernel
theorem dX11_rank_7 : decode cX11_rank 7 = .ok (.iadd, 1) := by decide +kernel
theorem dX11_rank_8 : decode cX11_rank 8 = .ok (.iconst 1, 1) := by decide +kernel
theorem dX11_rank_9 : decode cX11_rank 9 = .ok (.iadd, 1) := by decide +kernel
theorem dX11_rank_10 : decode cX11_rank 10 = .ok (.invokevirtual 56, 3) := by decide +kernel
theorem dX11_rank_13 : decode cX11_rank 13 = .ok (.ireturn, 1) := by decide +kernel
theorem dX11_cartOn_0 : decode cX11_cartOn 0 = .ok (.iconst (-1), 1) := by decide +kernel
theorem dX11_cartOn_1 : decode cX11_cartOn 1 = .ok (.istore_n 2, 1) := by decide +kernel
theorem dX11_cartOn_2 : decode cX11_cartOn 2 = .ok (.iconst 0, 1) := by decide +kernel
theorem dX11_cartOn_3 : decode cX11_cartOn 3 = .ok (.istore_n 3, 1) := by decide +kernel
theorem dX11_cartOn_4 : decode cX11_cartOn 4 = .ok (.iload_n 3, 1) := by decide +kernel
theorem dX11_cartOn_5 : decode cX11_cartOn 5 = .ok (.aload_n 0, 1) := by decide +kernel
theorem dX11_cartOn_6 : decode cX11_cartOn 6 = .ok (.getfield 7, 3) := by decide +kernel
theorem dX11_cartOn_9 : decode cX11_cartOn 9 = .ok (.iconst 0, 1) := by decide +kernel
theorem dX11_cartOn_10 : decode cX11_cartOn 10 = .ok (.iaload, 1) := by decide +kernel
theorem dX11_cartOn_11 : decode cX11_cartOn 11 = .ok (.if_icmp .ge 25, 3) := by decide +kernel
theorem dX11_cartOn_14 : decode cX11_cartOn 14 = .ok (.aload_n 0, 1) := by decide +kernel
theorem dX11_cartOn_15 : decode cX11_cartOn 15 = .ok (.iload_n 3, 1) := by decide +kernel
theorem dX11_cartOn_16 : decode cX11_cartOn 16 = .ok (.iconst 1, 1) := by decide +kernel
theorem dX11_cartOn_17 : decode cX11_cartOn 17 = .ok (.invokevirtual 56, 3) := by decide +kernel
theorem dX11_cartOn_20 : decode cX11_cartOn 20 = .ok (.iload_n 1, 1) := by decide +kernel
theorem dX11_cartOn_21 : decode cX11_cartOn 21 = .ok (.if_icmp .ne 7, 3) := by decide +kernel
theorem dX11_cartOn_24 : decode cX11_cartOn 24 = .ok (.iload_n 3, 1) := by decide +kernel
theorem dX11_cartOn_25 : decode cX11_cartOn 25 = .ok (.goto 4, 3) := by decide +kernel
theorem dX11_cartOn_28 : decode cX11_cartOn 28 = .ok (.iload_n 2, 1) := by decide +kernel
theorem dX11_cartOn_29 : decode cX11_cartOn 29 = .ok (.istore_n 2, 1) := by decide +kernel
theorem dX11_cartOn_30 : decode cX11_cartOn 30 = .ok (.iinc 3 1, 3) := by decide +kernel
theorem dX11_cartOn_33 : decode cX11_cartOn 33 = .ok (.goto (-29), 3) := by decide +kernel
theorem dX11_cartOn_36 : decode cX11_cartOn 36 = .ok (.iload_n 2, 1) := by decide +kernel
theorem dX11_cartOn_37 : decode cX11_cartOn 37 = .ok (.ireturn, 1) := by decide +kernel
theorem dX11_isWall_0 : decode cX11_isWall 0 = .ok (.aload_n 0, 1) := by decide +kernel
theorem dX11_isWall_1 : decode cX11_isWall 1 = .ok (.getfield 7, 3) := by decide +kernel
theorem dX11_isWall_4 : decode cX11_isWall 4 = .ok (.bipush 75, 2) := by decide +kernel
theorem dX11_isWall_6 : decode cX11_isWall 6 = .ok (.iload_n 1, 1) := by decide +kernel
theorem dX11_isWall_7 : decode cX11_isWall 7 = .ok (.iadd, 1) := by decide +kernel
theorem dX11_isWall_8 : decode cX11_isWall 8 = .ok (.iaload, 1) := by decide +kernel
theorem dX11_isWall_9 : decode cX11_isWall 9 = .ok (.iload_n 2, 1) := by decide +kernel
theorem dX11_isWall_10 : decode cX11_isWall 10 = .ok (.ishr, 1) := by decide +kernel
theorem dX11_isWall_11 : decode cX11_isWall 11 = .ok (.iconst 1, 1) := by decide +kernel
theorem dX11_isWall_12 : decode cX11_isWall 12 = .ok (.iand, 1) := by decide +kernel
theorem dX11_isWall_13 : decode cX11_isWall 13 = .ok (.iconst 1, 1) := by decide +kernel
theorem dX11_isWall_14 : decode cX11_isWall 14 = .ok (.if_icmp .ne 7, 3) := by decide +kernel
theorem dX11_isWall_17 : decode cX11_isWall 17 = .ok (.iconst 1, 1) := by decide +kernel
theorem dX11_isWall_18 : decode cX11_isWall 18 = .ok (.goto 4, 3) := by decide +kernel
theorem dX11_isWall_21 : decode cX11_isWall 21 = .ok (.iconst 0, 1) := by decide +kernel
theorem dX11_isWall_22 : decode cX11_isWall 22 = .ok (.ireturn, 1) := by decide +kernel
theorem dX11_next_0 : decode cX11_next 0 = .ok (.iload_n 0, 1) := by decide +kernel
theorem dX11_next_1 : decode cX11_next 1 = .ok (.bipush 8, 2) := by decide +kernel
theorem dX11_next_3 : decode cX11_next 3 = .ok (.irem, 1) := by decide +kernel
theorem dX11_next_4 : decode cX11_next 4 = .ok (.iload_n 1, 1) := by decide +kernel
theorem dX11_next_5 : decode cX11_next 5 = .ok (.iconst 1, 1) := by decide +kernel
theorem dX11_next_6 : decode cX11_next 6 = .ok (.if_icmp .ne 7, 3) := by decide +kernel
theorem dX11_next_9 : decode cX11_next 9 = .ok (.iconst 1, 1) := by decide +kernel
theorem dX11_next_10 : decode cX11_next 10 = .ok (.goto 13, 3) := by decide +kernel
theorem dX11_next_13 : decode cX11_next 13 = .ok (.iload_n 1, 1) := by decide +kernel
theorem dX11_next_14 : decode cX11_next 14 = .ok (.iconst 3, 1) := by decide +kernel
theorem dX11_next_15 : decode cX11_next 15 = .ok (.if_icmp .ne 7, 3) := by decide +kernel
theorem dX11_next_18 : decode cX11_next 18 = .ok (.iconst (-1), 1) := by decide +kernel
theorem dX11_next_19 : decode cX11_next 19 = .ok (.goto 4, 3) := by decide +kernel
theorem dX11_next_22 : decode cX11_next 22 = .ok (.iconst 0, 1) := by decide +kernel
theorem dX11_next_23 : decode cX11_next 23 = .ok (.iadd, 1) := by decide +kernel
theorem dX11_next_24 : decode cX11_next 24 = .ok (.istore_n 2, 1) := by decide +kernel
theorem dX11_next_25 : decode cX11_next 25 = .ok (.iload_n 0, 1) := by decide +kernel
theorem dX11_next_26 : decode cX11_next 26 = .ok (.bipush 8, 2) := by decide +kernel
theorem dX11_next_28 : decode cX11_next 28 = .ok (.idiv, 1) := by decide +kernel
theorem dX11_next_29 : decode cX11_next 29 = .ok (.iload_n 1, 1) := by decide +kernel
theorem dX11_next_30 : decode cX11_next 30 = .ok (.iconst 2, 1) := by decide +kernel
theorem dX11_next_31 : decode cX11_next 31 = .ok (.if_icmp .ne 7, 3) := by decide +kernel
theorem dX11_next_34 : decode cX11_next 34 = .ok (.iconst 1, 1) := by decide +kernel
theorem dX11_next_35 : decode cX11_next 35 = .ok (.goto 12, 3) := by decide +kernel
theorem dX11_next_38 : decode cX11_next 38 = .ok (.iload_n 1, 1) := by decide +kernel
theorem dX11_next_39 : decode cX11_next 39 = .ok (.ifCond .ne 7, 3) := by decide +kernel
theorem dX11_next_42 : decode cX11_next 42 = .ok (.iconst (-1), 1) := by decide +kernel
theorem dX11_next_43 : decode cX11_next 43 = .ok (.goto 4, 3) := by decide +kernel
theorem dX11_next_46 : decode cX11_next 46 = .ok (.iconst 0, 1) := by decide +kernel
theorem dX11_next_47 : decode cX11_next 47 = .ok (.iadd, 1) := by decide +kernel
theorem dX11_next_48 : decode cX11_next 48 = .ok (.istore_n 3, 1) := by decide +kernel
theorem dX11_next_49 : decode cX11_next 49 = .ok (.iload_n 2, 1) := by decide +kernel
theorem dX11_next_50 : decode cX11_next 50 = .ok (.iconst 0, 1) := by decide +kernel
theorem dX11_next_51 : decode cX11_next 51 = .ok (.bipush 7, 2) := by decide +kernel
theorem dX11_next_53 : decode cX11_next 53 = .ok (.invokestatic 44, 3) := by decide +kernel
theorem dX11_next_56 : decode cX11_next 56 = .ok (.ifCond .eq 22, 3) := by decide +kernel
theorem dX11_next_59 : decode cX11_next 59 = .ok (.iload_n 3, 1) := by decide +kernel
theorem dX11_next_60 : decode cX11_next 60 = .ok (.iconst 0, 1) := by decide +kernel
theorem dX11_next_61 : decode cX11_next 61 = .ok (.bipush 7, 2) := by decide +kernel
theorem dX11_next_63 : decode cX11_next 63 = .ok (.invokestatic 44, 3) := by decide +kernel
theorem dX11_next_66 : decode cX11_next 66 = .ok (.ifCond .eq 12, 3) := by decide +kernel
theorem dX11_next_69 : decode cX11_next 69 = .ok (.bipush 8, 2) := by decide +kernel
theorem dX11_next_71 : decode cX11_next 71 = .ok (.iload_n 3, 1) := by decide +kernel
theorem dX11_next_72 : decode cX11_next 72 = .ok (.imul, 1) := by decide +kernel
theorem dX11_next_73 : decode cX11_next 73 = .ok (.iload_n 2, 1) := by decide +kernel
theorem dX11_next_74 : decode cX11_next 74 = .ok (.iadd, 1) := by decide +kernel
theorem dX11_next_75 : decode cX11_next 75 = .ok (.goto 4, 3) := by decide +kernel
theorem dX11_next_78 : decode cX11_next 78 = .ok (.iconst (-1), 1) := by decide +kernel
theorem dX11_next_79 : decode cX11_next 79 = .ok (.ireturn, 1) := by decide +kernel
theorem dX11_isLocked_0 : decode cX11_isLocked 0 = .ok (.iload_n 2, 1) := by decide +kernel
theorem dX11_isLocked_1 : decode cX11_isLocked 1 = .ok (.iconst 5, 1) := by decide +kernel
theorem dX11_isLocked_2 : decode cX11_isLocked 2 = .ok (.aload_n 0, 1) := by decide +kernel
theorem dX11_isLocked_3 : decode cX11_isLocked 3 = .ok (.iload_n 1, 1) := by decide +kernel
theorem dX11_isLocked_4 : decode cX11_isLocked 4 = .ok (.iconst 3, 1) := by decide +kernel
theorem dX11_isLocked_5 : decode cX11_isLocked 5 = .ok (.invokevirtual 56, 3) := by decide +kernel
theorem dX11_isLocked_8 : decode cX11_isLocked 8 = .ok (.iconst 4, 1) := by decide +kernel
theorem dX11_isLocked_9 : decode cX11_isLocked 9 = .ok (.isub, 1) := by decide +kernel
theorem dX11_isLocked_10 : decode cX11_isLocked 10 = .ok (.isub, 1) := by decide +kernel
theorem dX11_isLocked_11 : decode cX11_isLocked 11 = .ok (.if_icmp .lt 7, 3) := by decide +kernel
theorem dX11_isLocked_14 : decode cX11_isLocked 14 = .ok (.iconst 1, 1) := by decide +kernel
theorem dX11_isLocked_15 : decode cX11_isLocked 15 = .ok (.goto 4, 3) := by decide +kernel
theorem dX11_isLocked_18 : decode cX11_isLocked 18 = .ok (.iconst 0, 1) := by decide +kernel
theorem dX11_isLocked_19 : decode cX11_isLocked 19 = .ok (.ireturn, 1) := by decide +kernel
theorem dX11_outs_0 : decode cX11_outs 0 = .ok (.iconst 0, 1) := by decide +kernel
theorem dX11_outs_1 : decode cX11_outs 1 = .ok (.istore_n 1, 1) := by decide +kernel
theorem dX11_outs_2 : decode cX11_outs 2 = .ok (.iconst 0, 1) := by decide +kernel
theorem dX11_outs_3 : decode cX11_outs 3 = .ok (.istore_n 2, 1) := by decide +kernel
theorem dX11_outs_4 : decode cX11_outs 4 = .ok (.iload_n 2, 1) := by decide +kernel
theorem dX11_outs_5 : decode cX11_outs 5 = .ok (.aload_n 0, 1) := by decide +kernel
theorem dX11_outs_6 : decode cX11_outs 6 = .ok (.getfield 7, 3) := by decide +kernel
theorem dX11_outs_9 : decode cX11_outs 9 = .ok (.iconst 0, 1) := by decide +kernel
theorem dX11_outs_10 : decode cX11_outs 10 = .ok (.iaload, 1) := by decide +kernel
theorem dX11_outs_11 : decode cX11_outs 11 = .ok (.if_icmp .ge 18, 3) := by decide +kernel
theorem dX11_outs_14 : decode cX11_outs 14 = .ok (.iload_n 1, 1) := by decide +kernel
theorem dX11_outs_15 : decode cX11_outs 15 = .ok (.aload_n 0, 1) := by decide +kernel
theorem dX11_outs_16 : decode cX11_outs 16 = .ok (.iload_n 2, 1) := by decide +kernel
theorem dX11_outs_17 : decode cX11_outs 17 = .ok (.iconst 5, 1) := by decide +kernel
theorem dX11_outs_18 : decode cX11_outs 18 = .ok (.invokevirtual 56, 3) := by decide +kernel
theorem dX11_outs_21 : decode cX11_outs 21 = .ok (.iadd, 1) := by decide +kernel
theorem dX11_outs_22 : decode cX11_outs 22 = .ok (.istore_n 1, 1) := by decide +kernel
theorem dX11_outs_23 : decode cX11_outs 23 = .ok (.iinc 2 1, 3) := by decide +kernel
theorem dX11_outs_26 : decode cX11_outs 26 = .ok (.goto (-22), 3) := by decide +kernel
theorem dX11_outs_29 : decode cX11_outs 29 = .ok (.iload_n 1, 1) := by decide +kernel
theorem dX11_outs_30 : decode cX11_outs 30 = .ok (.ireturn, 1) := by decide +kernel
theorem dX11_goesOut_0 : decode cX11_goesOut 0 = .ok (.aload_n 0, 1) := by decide +kernel
theorem dX11_goesOut_1 : decode cX11_goesOut 1 = .ok (.iload_n 1, 1) := by decide +kernel
theorem dX11_goesOut_2 : decode cX11_goesOut 2 = .ok (.iconst 1, 1) := by decide +kernel
theorem dX11_goesOut_3 : decode cX11_goesOut 3 = .ok (.iconst (-1), 1) := by decide +kernel
theorem dX11_goesOut_4 : decode cX11_goesOut 4 = .ok (.invokevirtual 60, 3) := by decide +kernel
theorem dX11_goesOut_7 : decode cX11_goesOut 7 = .ok (.aload_n 0, 1) := by decide +kernel
theorem dX11_goesOut_8 : decode cX11_goesOut 8 = .ok (.iload_n 1, 1) := by decide +kernel
theorem dX11_goesOut_9 : decode cX11_goesOut 9 = .ok (.iconst 5, 1) := by decide +kernel
theorem dX11_goesOut_10 : decode cX11_goesOut 10 = .ok (.invokevirtual 64, 3) := by decide +kernel
theorem dX11_goesOut_13 : decode cX11_goesOut 13 = .ok (.return_, 1) := by decide +kernel
theorem dX11_comesTo_0 : decode cX11_comesTo 0 = .ok (.iload_n 2, 1) := by decide +kernel
theorem dX11_comesTo_1 : decode cX11_comesTo 1 = .ok (.ifCond .lt 17, 3) := by decide +kernel
theorem dX11_comesTo_4 : decode cX11_comesTo 4 = .ok (.aload_n 0, 1) := by decide +kernel
theorem dX11_comesTo_5 : decode cX11_comesTo 5 = .ok (.getfield 7, 3) := by decide +kernel
theorem dX11_comesTo_8 : decode cX11_comesTo 8 = .ok (.bipush 11, 2) := by decide +kernel
theorem dX11_comesTo_10 : decode cX11_comesTo 10 = .ok (.iload_n 2, 1) := by decide +kernel
theorem dX11_comesTo_11 : decode cX11_comesTo 11 = .ok (.iadd, 1) := by decide +kernel
theorem dX11_comesTo_12 : decode cX11_comesTo 12 = .ok (.iaload, 1) := by decide +kernel
theorem dX11_comesTo_13 : decode cX11_comesTo 13 = .ok (.bipush 7, 2) := by decide +kernel
theorem dX11_comesTo_15 : decode cX11_comesTo 15 = .ok (.if_icmp .ne 11, 3) := by decide +kernel
theorem dX11_comesTo_18 : decode cX11_comesTo 18 = .ok (.aload_n 0, 1) := by decide +kernel
theorem dX11_comesTo_19 : decode cX11_comesTo 19 = .ok (.iload_n 1, 1) := by decide +kernel
theorem dX11_comesTo_20 : decode cX11_comesTo 20 = .ok (.invokevirtual 68, 3) := by decide +kernel
theorem dX11_comesTo_23 : decode cX11_comesTo 23 = .ok (.goto 10, 3) := by decide +kernel
theorem dX11_comesTo_26 : decode cX11_comesTo 26 = .ok (.aload_n 0, 1) := by decide +kernel
theorem dX11_comesTo_27 : decode cX11_comesTo 27 = .ok (.iload_n 1, 1) := by decide +kernel
theorem dX11_comesTo_28 : decode cX11_comesTo 28 = .ok (.iconst 1, 1) := by decide +kernel
theorem dX11_comesTo_29 : decode cX11_comesTo 29 = .ok (.iload_n 2, 1) := by decide +kernel
theorem dX11_comesTo_30 : decode cX11_comesTo 30 = .ok (.invokevirtual 60, 3) := by decide +kernel
theorem dX11_comesTo_33 : decode cX11_comesTo 33 = .ok (.return_, 1) := by decide +kernel
theorem dX11_steps1_0 : decode cX11_steps1 0 = .ok (.iconst 0, 1) := by decide +kernel
theorem dX11_steps1_1 : decode cX11_steps1 1 = .ok (.istore_n 3, 1) := by decide +kernel
theorem dX11_steps1_2 : decode cX11_steps1 2 = .ok (.iload_n 1, 1) := by decide +kernel
theorem dX11_steps1_3 : decode cX11_steps1 3 = .ok (.istore 4, 2) := by decide +kernel
theorem dX11_steps1_5 : decode cX11_steps1 5 = .ok (.iconst (-1), 1) := by decide +kernel
theorem dX11_steps1_6 : decode cX11_steps1 6 = .ok (.istore 5, 2) := by decide +kernel
theorem dX11_steps1_8 : decode cX11_steps1 8 = .ok (.iload 4, 2) := by decide +kernel
theorem dX11_steps1_10 : decode cX11_steps1 10 = .ok (.ifCond .lt 64, 3) := by decide +kernel
theorem dX11_steps1_13 : decode cX11_steps1 13 = .ok (.aload_n 0, 1) := by decide +kernel
theorem dX11_steps1_14 : decode cX11_steps1 14 = .ok (.getfield 25, 3) := by decide +kernel
theorem dX11_steps1_17 : decode cX11_steps1 17 = .ok (.iload_n 3, 1) := by decide +kernel
theorem dX11_steps1_18 : decode cX11_steps1 18 = .ok (.iload 4, 2) := by decide +kernel
theorem dX11_steps1_20 : decode cX11_steps1 20 = .ok (.iastore, 1) := by decide +kernel
theorem dX11_steps1_21 : decode cX11_steps1 21 = .ok (.iinc 3 1, 3) := by decide +kernel
theorem dX11_steps1_24 : decode cX11_steps1 24 = .ok (.aload_n 0, 1) := by decide +kernel
theorem dX11_steps1_25 : decode cX11_steps1 25 = .ok (.aload_n 0, 1) := by decide +kernel
theorem dX11_steps1_26 : decode cX11_steps1 26 = .ok (.iload 4, 2) := by decide +kernel
theorem dX11_steps1_28 : decode cX11_steps1 28 = .ok (.iconst 1, 1) := by decide +kernel
theorem dX11_steps1_29 : decode cX11_steps1 29 = .ok (.invokevirtual 56, 3) := by decide +kernel
theorem dX11_steps1_32 : decode cX11_steps1 32 = .ok (.iload_n 2, 1) := by decide +kernel
theorem dX11_steps1_33 : decode cX11_steps1 33 = .ok (.invokevirtual 72, 3) := by decide +kernel
theorem dX11_steps1_36 : decode cX11_steps1 36 = .ok (.ifCond .eq 5, 3) := by decide +kernel
theorem dX11_steps1_39 : decode cX11_steps1 39 = .ok (.iconst 0, 1) := by decide +kernel
theorem dX11_steps1_40 : decode cX11_steps1 40 = .ok (.ireturn, 1) := by decide +kernel
theorem dX11_steps1_41 : decode cX11_steps1 41 = .ok (.aload_n 0, 1) := by decide +kernel
theorem dX11_steps1_42 : decode cX11_steps1 42 = .ok (.iload 4, 2) := by decide +kernel
theorem dX11_steps1_44 : decode cX11_steps1 44 = .ok (.iconst 1, 1) := by decide +kernel
theorem dX11_steps1_45 : decode cX11_steps1 45 = .ok (.invokevirtual 56, 3) := by decide +kernel
theorem dX11_steps1_48 : decode cX11_steps1 48 = .ok (.iload_n 2, 1) := by decide +kernel
theorem dX11_steps1_49 : decode cX11_steps1 49 = .ok (.invokestatic 76, 3) := by decide +kernel
theorem dX11_steps1_52 : decode cX11_steps1 52 = .ok (.istore 5, 2) := by decide +kernel
theorem dX11_steps1_54 : decode cX11_steps1 54 = .ok (.iload 5, 2) := by decide +kernel
theorem dX11_steps1_56 : decode cX11_steps1 56 = .ok (.ifCond .ge 7, 3) := by decide +kernel
theorem dX11_steps1_59 : decode cX11_steps1 59 = .ok (.iconst (-1), 1) := by decide +kernel
theorem dX11_steps1_60 : decode cX11_steps1 60 = .ok (.goto 9, 3) := by decide +kernel
theorem dX11_steps1_63 : decode cX11_steps1 63 = .ok (.aload_n 0, 1) := by decide +kernel
theorem dX11_steps1_64 : decode cX11_steps1 64 = .ok (.iload 5, 2) := by decide +kernel
theorem dX11_steps1_66 : decode cX11_steps1 66 = .ok (.invokevirtual 79, 3) := by decide +kernel
theorem dX11_steps1_69 : decode cX11_steps1 69 = .ok (.istore 4, 2) := by decide +kernel
theorem dX11_steps1_71 : decode cX11_steps1 71 = .ok (.goto (-63), 3) := by decide +kernel
theorem dX11_steps1_74 : decode cX11_steps1 74 = .ok (.iload_n 3, 1) := by decide +kernel
theorem dX11_steps1_75 : decode cX11_steps1 75 = .ok (.iconst 1, 1) := by decide +kernel
theorem dX11_steps1_76 : decode cX11_steps1 76 = .ok (.isub, 1) := by decide +kernel
theorem dX11_steps1_77 : decode cX11_steps1 77 = .ok (.istore 6, 2) := by decide +kernel
theorem dX11_steps1_79 : decode cX11_steps1 79 = .ok (.iload 6, 2) := by decide +kernel
theorem dX11_steps1_81 : decode cX11_steps1 81 = .ok (.ifCond .lt 60, 3) := by decide +kernel
theorem dX11_steps1_84 : decode cX11_steps1 84 = .ok (.aload_n 0, 1) := by decide +kernel
theorem dX11_steps1_85 : decode cX11_steps1 85 = .ok (.aload_n 0, 1) := by decide +kernel
theorem dX11_steps1_86 : decode cX11_steps1 86 = .ok (.getfield 25, 3) := by decide +kernel
theorem dX11_steps1_89 : decode cX11_steps1 89 = .ok (.iload 6, 2) := by decide +kernel
theorem dX11_steps1_91 : decode cX11_steps1 91 = .ok (.iaload, 1) := by decide +kernel
theorem dX11_steps1_92 : decode cX11_steps1 92 = .ok (.iconst 1, 1) := by decide +kernel
theorem dX11_steps1_93 : decode cX11_steps1 93 = .ok (.invokevirtual 56, 3) := by decide +kernel
theorem dX11_steps1_96 : decode cX11_steps1 96 = .ok (.iload_n 2, 1) := by decide +kernel
theorem dX11_steps1_97 : decode cX11_steps1 97 = .ok (.invokestatic 76, 3) := by decide +kernel
theorem dX11_steps1_100 : decode cX11_steps1 100 = .ok (.istore 7, 2) := by decide +kernel
theorem dX11_steps1_102 : decode cX11_steps1 102 = .ok (.aload_n 0, 1) := by decide +kernel
theorem dX11_steps1_103 : decode cX11_steps1 103 = .ok (.aload_n 0, 1) := by decide +kernel
theorem dX11_steps1_104 : decode cX11_steps1 104 = .ok (.getfield 25, 3) := by decide +kernel
theorem dX11_steps1_107 : decode cX11_steps1 107 = .ok (.iload 6, 2) := by decide +kernel
theorem dX11_steps1_109 : decode cX11_steps1 109 = .ok (.iaload, 1) := by decide +kernel
theorem dX11_steps1_110 : decode cX11_steps1 110 = .ok (.iload 7, 2) := by decide +kernel
theorem dX11_steps1_112 : decode cX11_steps1 112 = .ok (.invokevirtual 83, 3) := by decide +kernel
theorem dX11_steps1_115 : decode cX11_steps1 115 = .ok (.aload_n 0, 1) := by decide +kernel
theorem dX11_steps1_116 : decode cX11_steps1 116 = .ok (.getfield 7, 3) := by decide +kernel
theorem dX11_steps1_119 : decode cX11_steps1 119 = .ok (.bipush 6, 2) := by decide +kernel
theorem dX11_steps1_121 : decode cX11_steps1 121 = .ok (.dup2, 1) := by decide +kernel
theorem dX11_steps1_122 : decode cX11_steps1 122 = .ok (.iaload, 1) := by decide +kernel
theorem dX11_steps1_123 : decode cX11_steps1 123 = .ok (.iload 6, 2) := by decide +kernel
theorem dX11_steps1_125 : decode cX11_steps1 125 = .ok (.ifCond .le 7, 3) := by decide +kernel
theorem dX11_steps1_128 : decode cX11_steps1 128 = .ok (.iconst 1, 1) := by decide +kernel
theorem dX11_steps1_129 : decode cX11_steps1 129 = .ok (.goto 4, 3) := by decide +kernel
theorem dX11_steps1_132 : decode cX11_steps1 132 = .ok (.iconst 0, 1) := by decide +kernel
theorem dX11_steps1_133 : decode cX11_steps1 133 = .ok (.iadd, 1) := by decide +kernel
theorem dX11_steps1_134 : decode cX11_steps1 134 = .ok (.iastore, 1) := by decide +kernel
theorem dX11_steps1_135 : decode cX11_steps1 135 = .ok (.iinc 6 (-1), 3) := by decide +kernel
theorem dX11_steps1_138 : decode cX11_steps1 138 = .ok (.goto (-59), 3) := by decide +kernel
theorem dX11_steps1_141 : decode cX11_steps1 141 = .ok (.iconst 1, 1) := by decide +kernel
theorem dX11_steps1_142 : decode cX11_steps1 142 = .ok (.ireturn, 1) := by decide +kernel
theorem dX11_drives_0 : decode cX11_drives 0 = .ok (.iconst 0, 1) := by decide +kernel
theorem dX11_drives_1 : decode cX11_drives 1 = .ok (.istore 4, 2) := by decide +kernel
theorem dX11_drives_3 : decode cX11_drives 3 = .ok (.iload 4, 2) := by decide +kernel
theorem dX11_drives_5 : decode cX11_drives 5 = .ok (.iload_n 2, 1) := by decide +kernel
theorem dX11_drives_6 : decode cX11_drives 6 = .ok (.if_icmp .ge 64, 3) := by decide +kernel
theorem dX11_drives_9 : decode cX11_drives 9 = .ok (.aload_n 0, 1) := by decide +kernel
theorem dX11_drives_10 : decode cX11_drives 10 = .ok (.iload_n 1, 1) := by decide +kernel
theorem dX11_drives_11 : decode cX11_drives 11 = .ok (.invokevirtual 86, 3) := by decide +kernel
theorem dX11_drives_14 : decode cX11_drives 14 = .ok (.ifCond .ne 56, 3) := by decide +kernel
theorem dX11_drives_17 : decode cX11_drives 17 = .ok (.aload_n 0, 1) := by decide +kernel
theorem dX11_drives_18 : decode cX11_drives 18 = .ok (.iload_n 1, 1) := by decide +kernel
theorem dX11_drives_19 : decode cX11_drives 19 = .ok (.iload_n 3, 1) := by decide +kernel
theorem dX11_drives_20 : decode cX11_drives 20 = .ok (.invokevirtual 90, 3) := by decide +kernel
theorem dX11_drives_23 : decode cX11_drives 23 = .ok (.ifCond .ne 41, 3) := by decide +kernel
theorem dX11_drives_26 : decode cX11_drives 26 = .ok (.aload_n 0, 1) := by decide +kernel
theorem dX11_drives_27 : decode cX11_drives 27 = .ok (.iload_n 1, 1) := by decide +kernel
theorem dX11_drives_28 : decode cX11_drives 28 = .ok (.bipush 6, 2) := by decide +kernel
theorem dX11_drives_30 : decode cX11_drives 30 = .ok (.invokevirtual 64, 3) := by decide +kernel
theorem dX11_drives_33 : decode cX11_drives 33 = .ok (.aload_n 0, 1) := by decide +kernel
theorem dX11_drives_34 : decode cX11_drives 34 = .ok (.iload_n 1, 1) := by decide +kernel
theorem dX11_drives_35 : decode cX11_drives 35 = .ok (.iconst 3, 1) := by decide +kernel
theorem dX11_drives_36 : decode cX11_drives 36 = .ok (.aload_n 0, 1) := by decide +kernel
theorem dX11_drives_37 : decode cX11_drives 37 = .ok (.iload_n 1, 1) := by decide +kernel
theorem dX11_drives_38 : decode cX11_drives 38 = .ok (.iconst 3, 1) := by decide +kernel
theorem dX11_drives_39 : decode cX11_drives 39 = .ok (.invokevirtual 56, 3) := by decide +kernel
theorem dX11_drives_42 : decode cX11_drives 42 = .ok (.bipush 9, 2) := by decide +kernel
theorem dX11_drives_44 : decode cX11_drives 44 = .ok (.if_icmp .ge 14, 3) := by decide +kernel
theorem dX11_drives_47 : decode cX11_drives 47 = .ok (.aload_n 0, 1) := by decide +kernel
theorem dX11_drives_48 : decode cX11_drives 48 = .ok (.iload_n 1, 1) := by decide +kernel
theorem dX11_drives_49 : decode cX11_drives 49 = .ok (.iconst 3, 1) := by decide +kernel
theorem dX11_drives_50 : decode cX11_drives 50 = .ok (.invokevirtual 56, 3) := by decide +kernel
theorem dX11_drives_53 : decode cX11_drives 53 = .ok (.iconst 1, 1) := by decide +kernel
theorem dX11_drives_54 : decode cX11_drives 54 = .ok (.iadd, 1) := by decide +kernel
theorem dX11_drives_55 : decode cX11_drives 55 = .ok (.goto 5, 3) := by decide +kernel
theorem dX11_drives_58 : decode cX11_drives 58 = .ok (.bipush 9, 2) := by decide +kernel
theorem dX11_drives_60 : decode cX11_drives 60 = .ok (.invokevirtual 60, 3) := by decide +kernel
theorem dX11_drives_63 : decode cX11_drives 63 = .ok (.return_, 1) := by decide +kernel
theorem dX11_drives_64 : decode cX11_drives 64 = .ok (.iinc 4 1, 3) := by decide +kernel
theorem dX11_drives_67 : decode cX11_drives 67 = .ok (.goto (-64), 3) := by decide +kernel
theorem dX11_drives_70 : decode cX11_drives 70 = .ok (.return_, 1) := by decide +kernel
theorem dX11_turns_0 : decode cX11_turns 0 = .ok (.aload_n 0, 1) := by decide +kernel
theorem dX11_turns_1 : decode cX11_turns 1 = .ok (.iload_n 1, 1) := by decide +kernel
theorem dX11_turns_2 : decode cX11_turns 2 = .ok (.iconst 2, 1) := by decide +kernel
theorem dX11_turns_3 : decode cX11_turns 3 = .ok (.aload_n 0, 1) := by decide +kernel
theorem dX11_turns_4 : decode cX11_turns 4 = .ok (.iload_n 1, 1) := by decide +kernel
theorem dX11_turns_5 : decode cX11_turns 5 = .ok (.iconst 2, 1) := by decide +kernel
theorem dX11_turns_6 : decode cX11_turns 6 = .ok (.invokevirtual 56, 3) := by decide +kernel
theorem dX11_turns_9 : decode cX11_turns 9 = .ok (.iload_n 2, 1) := by decide +kernel
theorem dX11_turns_10 : decode cX11_turns 10 = .ok (.iadd, 1) := by decide +kernel
theorem dX11_turns_11 : decode cX11_turns 11 = .ok (.iconst 4, 1) := by decide +kernel
theorem dX11_turns_12 : decode cX11_turns 12 = .ok (.irem, 1) := by decide +kernel
theorem dX11_turns_13 : decode cX11_turns 13 = .ok (.invokevirtual 60, 3) := by decide +kernel
theorem dX11_turns_16 : decode cX11_turns 16 = .ok (.return_, 1) := by decide +kernel
theorem dX11_does_0 : decode cX11_does 0 = .ok (.aload_n 0, 1) := by decide +kernel
theorem dX11_does_1 : decode cX11_does 1 = .ok (.iload_n 1, 1) := by decide +kernel
theorem dX11_does_2 : decode cX11_does 2 = .ok (.iconst 2, 1) := by decide +kernel
theorem dX11_does_3 : decode cX11_does 3 = .ok (.invokevirtual 56, 3) := by decide +kernel
theorem dX11_does_6 : decode cX11_does 6 = .ok (.istore_n 3, 1) := by decide +kernel
theorem dX11_does_7 : decode cX11_does 7 = .ok (.iload_n 2, 1) := by decide +kernel
theorem dX11_does_8 : decode cX11_does 8 = .ok (.iconst 3, 1) := by decide +kernel
theorem dX11_does_9 : decode cX11_does 9 = .ok (.if_icmp .ge 15, 3) := by decide +kernel
theorem dX11_does_12 : decode cX11_does 12 = .ok (.aload_n 0, 1) := by decide +kernel
theorem dX11_does_13 : decode cX11_does 13 = .ok (.iload_n 1, 1) := by decide +kernel
theorem dX11_does_14 : decode cX11_does 14 = .ok (.iload_n 2, 1) := by decide +kernel
theorem dX11_does_15 : decode cX11_does 15 = .ok (.iconst 1, 1) := by decide +kernel
theorem dX11_does_16 : decode cX11_does 16 = .ok (.iadd, 1) := by decide +kernel
theorem dX11_does_17 : decode cX11_does 17 = .ok (.iload_n 3, 1) := by decide +kernel
theorem dX11_does_18 : decode cX11_does 18 = .ok (.invokevirtual 93, 3) := by decide +kernel
theorem dX11_does_21 : decode cX11_does 21 = .ok (.goto 46, 3) := by decide +kernel
theorem dX11_does_24 : decode cX11_does 24 = .ok (.iload_n 2, 1) := by decide +kernel
theorem dX11_does_25 : decode cX11_does 25 = .ok (.iconst 3, 1) := by decide +kernel
theorem dX11_does_26 : decode cX11_does 26 = .ok (.if_icmp .ne 17, 3) := by decide +kernel
theorem dX11_does_29 : decode cX11_does 29 = .ok (.aload_n 0, 1) := by decide +kernel
theorem dX11_does_30 : decode cX11_does 30 = .ok (.iload_n 1, 1) := by decide +kernel
theorem dX11_does_31 : decode cX11_does 31 = .ok (.iconst 1, 1) := by decide +kernel
theorem dX11_does_32 : decode cX11_does 32 = .ok (.iload_n 3, 1) := by decide +kernel
theorem dX11_does_33 : decode cX11_does 33 = .ok (.iconst 2, 1) := by decide +kernel
theorem dX11_does_34 : decode cX11_does 34 = .ok (.iadd, 1) := by decide +kernel
theorem dX11_does_35 : decode cX11_does 35 = .ok (.iconst 4, 1) := by decide +kernel
theorem dX11_does_36 : decode cX11_does 36 = .ok (.irem, 1) := by decide +kernel
theorem dX11_does_37 : decode cX11_does 37 = .ok (.invokevirtual 93, 3) := by decide +kernel
theorem dX11_does_40 : decode cX11_does 40 = .ok (.goto 27, 3) := by decide +kernel
theorem dX11_does_43 : decode cX11_does 43 = .ok (.aload_n 0, 1) := by decide +kernel
theorem dX11_does_44 : decode cX11_does 44 = .ok (.iload_n 1, 1) := by decide +kernel
theorem dX11_does_45 : decode cX11_does 45 = .ok (.iload_n 2, 1) := by decide +kernel
theorem dX11_does_46 : decode cX11_does 46 = .ok (.iconst 4, 1) := by decide +kernel
theorem dX11_does_47 : decode cX11_does 47 = .ok (.if_icmp .ne 7, 3) := by decide +kernel
theorem dX11_does_50 : decode cX11_does 50 = .ok (.iconst 3, 1) := by decide +kernel
theorem dX11_does_51 : decode cX11_does 51 = .ok (.goto 13, 3) := by decide +kernel
theorem dX11_does_54 : decode cX11_does 54 = .ok (.iload_n 2, 1) := by decide +kernel
theorem dX11_does_55 : decode cX11_does 55 = .ok (.iconst 5, 1) := by decide +kernel
theorem dX11_does_56 : decode cX11_does 56 = .ok (.if_icmp .ne 7, 3) := by decide +kernel
theorem dX11_does_59 : decode cX11_does 59 = .ok (.iconst 1, 1) := by decide +kernel
theorem dX11_does_60 : decode cX11_does 60 = .ok (.goto 4, 3) := by decide +kernel
theorem dX11_does_63 : decode cX11_does 63 = .ok (.iconst 2, 1) := by decide +kernel
theorem dX11_does_64 : decode cX11_does 64 = .ok (.invokevirtual 96, 3) := by decide +kernel
theorem dX11_does_67 : decode cX11_does 67 = .ok (.return_, 1) := by decide +kernel
theorem dX11_orders_0 : decode cX11_orders 0 = .ok (.aload_n 0, 1) := by decide +kernel
theorem dX11_orders_1 : decode cX11_orders 1 = .ok (.iconst 0, 1) := by decide +kernel
theorem dX11_orders_2 : decode cX11_orders 2 = .ok (.putfield 99, 3) := by decide +kernel
theorem dX11_orders_5 : decode cX11_orders 5 = .ok (.aload_n 0, 1) := by decide +kernel
theorem dX11_orders_6 : decode cX11_orders 6 = .ok (.getfield 7, 3) := by decide +kernel
theorem dX11_orders_9 : decode cX11_orders 9 = .ok (.iconst 1, 1) := by decide +kernel
theorem dX11_orders_10 : decode cX11_orders 10 = .ok (.iaload, 1) := by decide +kernel
theorem dX11_orders_11 : decode cX11_orders 11 = .ok (.istore_n 1, 1) := by decide +kernel
theorem dX11_orders_12 : decode cX11_orders 12 = .ok (.iconst 0, 1) := by decide +kernel
theorem dX11_orders_13 : decode cX11_orders 13 = .ok (.istore_n 2, 1) := by decide +kernel
theorem dX11_orders_14 : decode cX11_orders 14 = .ok (.iload_n 2, 1) := by decide +kernel
theorem dX11_orders_15 : decode cX11_orders 15 = .ok (.aload_n 0, 1) := by decide +kernel
theorem dX11_orders_16 : decode cX11_orders 16 = .ok (.getfield 7, 3) := by decide +kernel
theorem dX11_orders_19 : decode cX11_orders 19 = .ok (.iconst 0, 1) := by decide +kernel
theorem dX11_orders_20 : decode cX11_orders 20 = .ok (.iaload, 1) := by decide +kernel
theorem dX11_orders_21 : decode cX11_orders 21 = .ok (.if_icmp .ge 94, 3) := by decide +kernel
theorem dX11_orders_24 : decode cX11_orders 24 = .ok (.aload_n 0, 1) := by decide +kernel
theorem dX11_orders_25 : decode cX11_orders 25 = .ok (.iload_n 2, 1) := by decide +kernel
theorem dX11_orders_26 : decode cX11_orders 26 = .ok (.invokevirtual 86, 3) := by decide +kernel
theorem dX11_orders_29 : decode cX11_orders 29 = .ok (.ifCond .ne 80, 3) := by decide +kernel
theorem dX11_orders_32 : decode cX11_orders 32 = .ok (.aload_n 0, 1) := by decide +kernel
theorem dX11_orders_33 : decode cX11_orders 33 = .ok (.iload_n 2, 1) := by decide +kernel
theorem dX11_orders_34 : decode cX11_orders 34 = .ok (.iload_n 1, 1) := by decide +kernel
theorem dX11_orders_35 : decode cX11_orders 35 = .ok (.invokevirtual 102, 3) := by decide +kernel
theorem dX11_orders_38 : decode cX11_orders 38 = .ok (.ifCond .le 71, 3) := by decide +kernel
theorem dX11_orders_41 : decode cX11_orders 41 = .ok (.aload_n 0, 1) := by decide +kernel
theorem dX11_orders_42 : decode cX11_orders 42 = .ok (.getfield 99, 3) := by decide +kernel
theorem dX11_orders_45 : decode cX11_orders 45 = .ok (.istore_n 3, 1) := by decide +kernel
theorem dX11_orders_46 : decode cX11_orders 46 = .ok (.iload_n 3, 1) := by decide +kernel
theorem dX11_orders_47 : decode cX11_orders 47 = .ok (.ifCond .le 45, 3) := by decide +kernel
theorem dX11_orders_50 : decode cX11_orders 50 = .ok (.aload_n 0, 1) := by decide +kernel
theorem dX11_orders_51 : decode cX11_orders 51 = .ok (.aload_n 0, 1) := by decide +kernel
theorem dX11_orders_52 : decode cX11_orders 52 = .ok (.getfield 28, 3) := by decide +kernel
theorem dX11_orders_55 : decode cX11_orders 55 = .ok (.iload_n 3, 1) := by decide +kernel
theorem dX11_orders_56 : decode cX11_orders 56 = .ok (.iconst 1, 1) := by decide +kernel
theorem dX11_orders_57 : decode cX11_orders 57 = .ok (.isub, 1) := by decide +kernel
theorem dX11_orders_58 : decode cX11_orders 58 = .ok (.iaload, 1) := by decide +kernel
theorem dX11_orders_59 : decode cX11_orders 59 = .ok (.iload_n 1, 1) := by decide +kernel
theorem dX11_orders_60 : decode cX11_orders 60 = .ok (.invokevirtual 102, 3) := by decide +kernel
theorem dX11_orders_63 : decode cX11_orders 63 = .ok (.aload_n 0, 1) := by decide +kernel
theorem dX11_orders_64 : decode cX11_orders 64 = .ok (.iload_n 2, 1) := by decide +kernel
theorem dX11_orders_65 : decode cX11_orders 65 = .ok (.iload_n 1, 1) := by decide +kernel
theorem dX11_orders_66 : decode cX11_orders 66 = .ok (.invokevirtual 102, 3) := by decide +kernel
theorem dX11_orders_69 : decode cX11_orders 69 = .ok (.if_icmp .ge 23, 3) := by decide +kernel
theorem dX11_orders_72 : decode cX11_orders 72 = .ok (.aload_n 0, 1) := by decide +kernel
theorem dX11_orders_73 : decode cX11_orders 73 = .ok (.getfield 28, 3) := by decide +kernel
theorem dX11_orders_76 : decode cX11_orders 76 = .ok (.iload_n 3, 1) := by decide +kernel
theorem dX11_orders_77 : decode cX11_orders 77 = .ok (.aload_n 0, 1) := by decide +kernel
theorem dX11_orders_78 : decode cX11_orders 78 = .ok (.getfield 28, 3) := by decide +kernel
theorem dX11_orders_81 : decode cX11_orders 81 = .ok (.iload_n 3, 1) := by decide +kernel
theorem dX11_orders_82 : decode cX11_orders 82 = .ok (.iconst 1, 1) := by decide +kernel
theorem dX11_orders_83 : decode cX11_orders 83 = .ok (.isub, 1) := by decide +kernel
theorem dX11_orders_84 : decode cX11_orders 84 = .ok (.iaload, 1) := by decide +kernel
theorem dX11_orders_85 : decode cX11_orders 85 = .ok (.iastore, 1) := by decide +kernel
theorem dX11_orders_86 : decode cX11_orders 86 = .ok (.iinc 3 (-1), 3) := by decide +kernel
theorem dX11_orders_89 : decode cX11_orders 89 = .ok (.goto (-43), 3) := by decide +kernel
theorem dX11_orders_92 : decode cX11_orders 92 = .ok (.aload_n 0, 1) := by decide +kernel
theorem dX11_orders_93 : decode cX11_orders 93 = .ok (.getfield 28, 3) := by decide +kernel
theorem dX11_orders_96 : decode cX11_orders 96 = .ok (.iload_n 3, 1) := by decide +kernel
theorem dX11_orders_97 : decode cX11_orders 97 = .ok (.iload_n 2, 1) := by decide +kernel
theorem dX11_orders_98 : decode cX11_orders 98 = .ok (.iastore, 1) := by decide +kernel
theorem dX11_orders_99 : decode cX11_orders 99 = .ok (.aload_n 0, 1) := by decide +kernel
theorem dX11_orders_100 : decode cX11_orders 100 = .ok (.dup, 1) := by decide +kernel
theorem dX11_orders_101 : decode cX11_orders 101 = .ok (.getfield 99, 3) := by decide +kernel
theorem dX11_orders_104 : decode cX11_orders 104 = .ok (.iconst 1, 1) := by decide +kernel
theorem dX11_orders_105 : decode cX11_orders 105 = .ok (.iadd, 1) := by decide +kernel
theorem dX11_orders_106 : decode cX11_orders 106 = .ok (.putfield 99, 3) := by decide +kernel
theorem dX11_orders_109 : decode cX11_orders 109 = .ok (.iinc 2 1, 3) := by decide +kernel
theorem dX11_orders_112 : decode cX11_orders 112 = .ok (.goto (-98), 3) := by decide +kernel
theorem dX11_orders_115 : decode cX11_orders 115 = .ok (.return_, 1) := by decide +kernel
theorem dX11_isOnBelt_0 : decode cX11_isOnBelt 0 = .ok (.aload_n 0, 1) := by decide +kernel
theorem dX11_isOnBelt_1 : decode cX11_isOnBelt 1 = .ok (.iload_n 1, 1) := by decide +kernel
theorem dX11_isOnBelt_2 : decode cX11_isOnBelt 2 = .ok (.invokevirtual 86, 3) := by decide +kernel
theorem dX11_isOnBelt_5 : decode cX11_isOnBelt 5 = .ok (.ifCond .ne 29, 3) := by decide +kernel
theorem dX11_isOnBelt_8 : decode cX11_isOnBelt 8 = .ok (.aload_n 0, 1) := by decide +kernel
theorem dX11_isOnBelt_9 : decode cX11_isOnBelt 9 = .ok (.getfield 7, 3) := by decide +kernel
theorem dX11_isOnBelt_12 : decode cX11_isOnBelt 12 = .ok (.bipush 11, 2) := by decide +kernel
theorem dX11_isOnBelt_14 : decode cX11_isOnBelt 14 = .ok (.aload_n 0, 1) := by decide +kernel
theorem dX11_isOnBelt_15 : decode cX11_isOnBelt 15 = .ok (.iload_n 1, 1) := by decide +kernel
theorem dX11_isOnBelt_16 : decode cX11_isOnBelt 16 = .ok (.iconst 1, 1) := by decide +kernel
theorem dX11_isOnBelt_17 : decode cX11_isOnBelt 17 = .ok (.invokevirtual 56, 3) := by decide +kernel
theorem dX11_isOnBelt_20 : decode cX11_isOnBelt 20 = .ok (.iadd, 1) := by decide +kernel
theorem dX11_isOnBelt_21 : decode cX11_isOnBelt 21 = .ok (.iaload, 1) := by decide +kernel
theorem dX11_isOnBelt_22 : decode cX11_isOnBelt 22 = .ok (.iconst 1, 1) := by decide +kernel
theorem dX11_isOnBelt_23 : decode cX11_isOnBelt 23 = .ok (.iconst 4, 1) := by decide +kernel
theorem dX11_isOnBelt_24 : decode cX11_isOnBelt 24 = .ok (.invokestatic 44, 3) := by decide +kernel
theorem dX11_isOnBelt_27 : decode cX11_isOnBelt 27 = .ok (.ifCond .eq 7, 3) := by decide +kernel
theorem dX11_isOnBelt_30 : decode cX11_isOnBelt 30 = .ok (.iconst 1, 1) := by decide +kernel
theorem dX11_isOnBelt_31 : decode cX11_isOnBelt 31 = .ok (.goto 4, 3) := by decide +kernel
theorem dX11_isOnBelt_34 : decode cX11_isOnBelt 34 = .ok (.iconst 0, 1) := by decide +kernel
theorem dX11_isOnBelt_35 : decode cX11_isOnBelt 35 = .ok (.ireturn, 1) := by decide +kernel
theorem dX11_wants_0 : decode cX11_wants 0 = .ok (.aload_n 0, 1) := by decide +kernel
theorem dX11_wants_1 : decode cX11_wants 1 = .ok (.iload_n 1, 1) := by decide +kernel
theorem dX11_wants_2 : decode cX11_wants 2 = .ok (.invokevirtual 105, 3) := by decide +kernel
theorem dX11_wants_5 : decode cX11_wants 5 = .ok (.ifCond .eq 31, 3) := by decide +kernel
theorem dX11_wants_8 : decode cX11_wants 8 = .ok (.aload_n 0, 1) := by decide +kernel
theorem dX11_wants_9 : decode cX11_wants 9 = .ok (.iload_n 1, 1) := by decide +kernel
theorem dX11_wants_10 : decode cX11_wants 10 = .ok (.iconst 1, 1) := by decide +kernel
theorem dX11_wants_11 : decode cX11_wants 11 = .ok (.invokevirtual 56, 3) := by decide +kernel
theorem dX11_wants_14 : decode cX11_wants 14 = .ok (.aload_n 0, 1) := by decide +kernel
theorem dX11_wants_15 : decode cX11_wants 15 = .ok (.getfield 7, 3) := by decide +kernel
theorem dX11_wants_18 : decode cX11_wants 18 = .ok (.bipush 11, 2) := by decide +kernel
theorem dX11_wants_20 : decode cX11_wants 20 = .ok (.aload_n 0, 1) := by decide +kernel
theorem dX11_wants_21 : decode cX11_wants 21 = .ok (.iload_n 1, 1) := by decide +kernel
theorem dX11_wants_22 : decode cX11_wants 22 = .ok (.iconst 1, 1) := by decide +kernel
theorem dX11_wants_23 : decode cX11_wants 23 = .ok (.invokevirtual 56, 3) := by decide +kernel
theorem dX11_wants_26 : decode cX11_wants 26 = .ok (.iadd, 1) := by decide +kernel
theorem dX11_wants_27 : decode cX11_wants 27 = .ok (.iaload, 1) := by decide +kernel
theorem dX11_wants_28 : decode cX11_wants 28 = .ok (.iconst 1, 1) := by decide +kernel
theorem dX11_wants_29 : decode cX11_wants 29 = .ok (.isub, 1) := by decide +kernel
theorem dX11_wants_30 : decode cX11_wants 30 = .ok (.invokestatic 76, 3) := by decide +kernel
theorem dX11_wants_33 : decode cX11_wants 33 = .ok (.goto 4, 3) := by decide +kernel
theorem dX11_wants_36 : decode cX11_wants 36 = .ok (.iconst (-1), 1) := by decide +kernel
theorem dX11_wants_37 : decode cX11_wants 37 = .ok (.ireturn, 1) := by decide +kernel
theorem dX11_isInTheWay_0 : decode cX11_isInTheWay 0 = .ok (.aload_n 0, 1) := by decide +kernel
theorem dX11_isInTheWay_1 : decode cX11_isInTheWay 1 = .ok (.iload_n 1, 1) := by decide +kernel
theorem dX11_isInTheWay_2 : decode cX11_isInTheWay 2 = .ok (.invokevirtual 108, 3) := by decide +kernel
theorem dX11_isInTheWay_5 : decode cX11_isInTheWay 5 = .ok (.istore 4, 2) := by decide +kernel
theorem dX11_isInTheWay_7 : decode cX11_isInTheWay 7 = .ok (.iload_n 2, 1) := by decide +kernel
theorem dX11_isInTheWay_8 : decode cX11_isInTheWay 8 = .ok (.iload_n 1, 1) := by decide +kernel
theorem dX11_isInTheWay_9 : decode cX11_isInTheWay 9 = .ok (.if_icmp .eq 16, 3) := by decide +kernel
theorem dX11_isInTheWay_12 : decode cX11_isInTheWay 12 = .ok (.iload 4, 2) := by decide +kernel
theorem dX11_isInTheWay_14 : decode cX11_isInTheWay 14 = .ok (.ifCond .lt 11, 3) := by decide +kernel
theorem dX11_isInTheWay_17 : decode cX11_isInTheWay 17 = .ok (.aload_n 0, 1) := by decide +kernel
theorem dX11_isInTheWay_18 : decode cX11_isInTheWay 18 = .ok (.iload_n 2, 1) := by decide +kernel
theorem dX11_isInTheWay_19 : decode cX11_isInTheWay 19 = .ok (.invokevirtual 86, 3) := by decide +kernel
theorem dX11_isInTheWay_22 : decode cX11_isInTheWay 22 = .ok (.ifCond .eq 5, 3) := by decide +kernel
theorem dX11_isInTheWay_25 : decode cX11_isInTheWay 25 = .ok (.iconst 0, 1) := by decide +kernel
theorem dX11_isInTheWay_26 : decode cX11_isInTheWay 26 = .ok (.ireturn, 1) := by decide +kernel
theorem dX11_isInTheWay_27 : decode cX11_isInTheWay 27 = .ok (.aload_n 0, 1) := by decide +kernel
theorem dX11_isInTheWay_28 : decode cX11_isInTheWay 28 = .ok (.iload_n 2, 1) := by decide +kernel
theorem dX11_isInTheWay_29 : decode cX11_isInTheWay 29 = .ok (.iconst 1, 1) := by decide +kernel
theorem dX11_isInTheWay_30 : decode cX11_isInTheWay 30 = .ok (.invokevirtual 56, 3) := by decide +kernel
theorem dX11_isInTheWay_33 : decode cX11_isInTheWay 33 = .ok (.iload 4, 2) := by decide +kernel
theorem dX11_isInTheWay_35 : decode cX11_isInTheWay 35 = .ok (.if_icmp .ne 25, 3) := by decide +kernel
theorem dX11_isInTheWay_38 : decode cX11_isInTheWay 38 = .ok (.iload_n 3, 1) := by decide +kernel
theorem dX11_isInTheWay_39 : decode cX11_isInTheWay 39 = .ok (.ifCond .eq 17, 3) := by decide +kernel
theorem dX11_isInTheWay_42 : decode cX11_isInTheWay 42 = .ok (.aload_n 0, 1) := by decide +kernel
theorem dX11_isInTheWay_43 : decode cX11_isInTheWay 43 = .ok (.iload_n 2, 1) := by decide +kernel
theorem dX11_isInTheWay_44 : decode cX11_isInTheWay 44 = .ok (.invokevirtual 108, 3) := by decide +kernel
theorem dX11_isInTheWay_47 : decode cX11_isInTheWay 47 = .ok (.aload_n 0, 1) := by decide +kernel
theorem dX11_isInTheWay_48 : decode cX11_isInTheWay 48 = .ok (.iload_n 1, 1) := by decide +kernel
theorem dX11_isInTheWay_49 : decode cX11_isInTheWay 49 = .ok (.iconst 1, 1) := by decide +kernel
theorem dX11_isInTheWay_50 : decode cX11_isInTheWay 50 = .ok (.invokevirtual 56, 3) := by decide +kernel
theorem dX11_isInTheWay_53 : decode cX11_isInTheWay 53 = .ok (.if_icmp .ne 7, 3) := by decide +kernel
theorem dX11_isInTheWay_56 : decode cX11_isInTheWay 56 = .ok (.iconst 1, 1) := by decide +kernel
theorem dX11_isInTheWay_57 : decode cX11_isInTheWay 57 = .ok (.goto 4, 3) := by decide +kernel
theorem dX11_isInTheWay_60 : decode cX11_isInTheWay 60 = .ok (.iconst 0, 1) := by decide +kernel
theorem dX11_isInTheWay_61 : decode cX11_isInTheWay 61 = .ok (.istore 5, 2) := by decide +kernel
theorem dX11_isInTheWay_63 : decode cX11_isInTheWay 63 = .ok (.iload 5, 2) := by decide +kernel
theorem dX11_isInTheWay_65 : decode cX11_isInTheWay 65 = .ok (.ifCond .ne 13, 3) := by decide +kernel
theorem dX11_isInTheWay_68 : decode cX11_isInTheWay 68 = .ok (.aload_n 0, 1) := by decide +kernel
theorem dX11_isInTheWay_69 : decode cX11_isInTheWay 69 = .ok (.iload_n 2, 1) := by decide +kernel
theorem dX11_isInTheWay_70 : decode cX11_isInTheWay 70 = .ok (.invokevirtual 108, 3) := by decide +kernel
theorem dX11_isInTheWay_73 : decode cX11_isInTheWay 73 = .ok (.iload 4, 2) := by decide +kernel
theorem dX11_isInTheWay_75 : decode cX11_isInTheWay 75 = .ok (.if_icmp .ne 7, 3) := by decide +kernel
theorem dX11_isInTheWay_78 : decode cX11_isInTheWay 78 = .ok (.iconst 1, 1) := by decide +kernel
theorem dX11_isInTheWay_79 : decode cX11_isInTheWay 79 = .ok (.goto 4, 3) := by decide +kernel
theorem dX11_isInTheWay_82 : decode cX11_isInTheWay 82 = .ok (.iconst 0, 1) := by decide +kernel
theorem dX11_isInTheWay_83 : decode cX11_isInTheWay 83 = .ok (.ireturn, 1) := by decide +kernel
theorem dX11_stays_0 : decode cX11_stays 0 = .ok (.iconst 0, 1) := by decide +kernel
theorem dX11_stays_1 : decode cX11_stays 1 = .ok (.istore_n 2, 1) := by decide +kernel
theorem dX11_stays_2 : decode cX11_stays 2 = .ok (.iconst 0, 1) := by decide +kernel
theorem dX11_stays_3 : decode cX11_stays 3 = .ok (.istore_n 3, 1) := by decide +kernel
theorem dX11_stays_4 : decode cX11_stays 4 = .ok (.iload_n 3, 1) := by decide +kernel
theorem dX11_stays_5 : decode cX11_stays 5 = .ok (.aload_n 0, 1) := by decide +kernel
theorem dX11_stays_6 : decode cX11_stays 6 = .ok (.getfield 7, 3) := by decide +kernel
theorem dX11_stays_9 : decode cX11_stays 9 = .ok (.iconst 0, 1) := by decide +kernel
theorem dX11_stays_10 : decode cX11_stays 10 = .ok (.iaload, 1) := by decide +kernel
theorem dX11_stays_11 : decode cX11_stays 11 = .ok (.if_icmp .ge 34, 3) := by decide +kernel
theorem dX11_stays_14 : decode cX11_stays 14 = .ok (.iload_n 2, 1) := by decide +kernel
theorem dX11_stays_15 : decode cX11_stays 15 = .ok (.ifCond .ne 18, 3) := by decide +kernel
theorem dX11_stays_18 : decode cX11_stays 18 = .ok (.aload_n 0, 1) := by decide +kernel
theorem dX11_stays_19 : decode cX11_stays 19 = .ok (.iload_n 1, 1) := by decide +kernel
theorem dX11_stays_20 : decode cX11_stays 20 = .ok (.iload_n 3, 1) := by decide +kernel
theorem dX11_stays_21 : decode cX11_stays 21 = .ok (.aload_n 0, 1) := by decide +kernel
theorem dX11_stays_22 : decode cX11_stays 22 = .ok (.getfield 31, 3) := by decide +kernel
theorem dX11_stays_25 : decode cX11_stays 25 = .ok (.iload_n 3, 1) := by decide +kernel
theorem dX11_stays_26 : decode cX11_stays 26 = .ok (.baload, 1) := by decide +kernel
theorem dX11_stays_27 : decode cX11_stays 27 = .ok (.invokevirtual 111, 3) := by decide +kernel
theorem dX11_stays_30 : decode cX11_stays 30 = .ok (.ifCond .eq 7, 3) := by decide +kernel
theorem dX11_stays_33 : decode cX11_stays 33 = .ok (.iconst 1, 1) := by decide +kernel
theorem dX11_stays_34 : decode cX11_stays 34 = .ok (.goto 4, 3) := by decide +kernel
theorem dX11_stays_37 : decode cX11_stays 37 = .ok (.iconst 0, 1) := by decide +kernel
theorem dX11_stays_38 : decode cX11_stays 38 = .ok (.istore_n 2, 1) := by decide +kernel
theorem dX11_stays_39 : decode cX11_stays 39 = .ok (.iinc 3 1, 3) := by decide +kernel
theorem dX11_stays_42 : decode cX11_stays 42 = .ok (.goto (-38), 3) := by decide +kernel
theorem dX11_stays_45 : decode cX11_stays 45 = .ok (.iload_n 2, 1) := by decide +kernel
theorem dX11_stays_46 : decode cX11_stays 46 = .ok (.ireturn, 1) := by decide +kernel
theorem dX11_belts_0 : decode cX11_belts 0 = .ok (.iconst 0, 1) := by decide +kernel
theorem dX11_belts_1 : decode cX11_belts 1 = .ok (.istore_n 1, 1) := by decide +kernel
theorem dX11_belts_2 : decode cX11_belts 2 = .ok (.iload_n 1, 1) := by decide +kernel
theorem dX11_belts_3 : decode cX11_belts 3 = .ok (.aload_n 0, 1) := by decide +kernel
theorem dX11_belts_4 : decode cX11_belts 4 = .ok (.getfield 7, 3) := by decide +kernel
theorem dX11_belts_7 : decode cX11_belts 7 = .ok (.iconst 0, 1) := by decide +kernel
theorem dX11_belts_8 : decode cX11_belts 8 = .ok (.iaload, 1) := by decide +kernel
theorem dX11_belts_9 : decode cX11_belts 9 = .ok (.if_icmp .ge 68, 3) := by decide +kernel
theorem dX11_belts_12 : decode cX11_belts 12 = .ok (.aload_n 0, 1) := by decide +kernel
theorem dX11_belts_13 : decode cX11_belts 13 = .ok (.getfield 31, 3) := by decide +kernel
theorem dX11_belts_16 : decode cX11_belts 16 = .ok (.iload_n 1, 1) := by decide +kernel
theorem dX11_belts_17 : decode cX11_belts 17 = .ok (.aload_n 0, 1) := by decide +kernel
theorem dX11_belts_18 : decode cX11_belts 18 = .ok (.iload_n 1, 1) := by decide +kernel
theorem dX11_belts_19 : decode cX11_belts 19 = .ok (.invokevirtual 105, 3) := by decide +kernel
theorem dX11_belts_22 : decode cX11_belts 22 = .ok (.ifCond .eq 36, 3) := by decide +kernel
theorem dX11_belts_25 : decode cX11_belts 25 = .ok (.aload_n 0, 1) := by decide +kernel
theorem dX11_belts_26 : decode cX11_belts 26 = .ok (.aload_n 0, 1) := by decide +kernel
theorem dX11_belts_27 : decode cX11_belts 27 = .ok (.iload_n 1, 1) := by decide +kernel
theorem dX11_belts_28 : decode cX11_belts 28 = .ok (.iconst 1, 1) := by decide +kernel
theorem dX11_belts_29 : decode cX11_belts 29 = .ok (.invokevirtual 56, 3) := by decide +kernel
theorem dX11_belts_32 : decode cX11_belts 32 = .ok (.aload_n 0, 1) := by decide +kernel
theorem dX11_belts_33 : decode cX11_belts 33 = .ok (.getfield 7, 3) := by decide +kernel
theorem dX11_belts_36 : decode cX11_belts 36 = .ok (.bipush 11, 2) := by decide +kernel
theorem dX11_belts_38 : decode cX11_belts 38 = .ok (.aload_n 0, 1) := by decide +kernel
theorem dX11_belts_39 : decode cX11_belts 39 = .ok (.iload_n 1, 1) := by decide +kernel
theorem dX11_belts_40 : decode cX11_belts 40 = .ok (.iconst 1, 1) := by decide +kernel
theorem dX11_belts_41 : decode cX11_belts 41 = .ok (.invokevirtual 56, 3) := by decide +kernel
theorem dX11_belts_44 : decode cX11_belts 44 = .ok (.iadd, 1) := by decide +kernel
theorem dX11_belts_45 : decode cX11_belts 45 = .ok (.iaload, 1) := by decide +kernel
theorem dX11_belts_46 : decode cX11_belts 46 = .ok (.iconst 1, 1) := by decide +kernel
theorem dX11_belts_47 : decode cX11_belts 47 = .ok (.isub, 1) := by decide +kernel
theorem dX11_belts_48 : decode cX11_belts 48 = .ok (.invokevirtual 72, 3) := by decide +kernel
theorem dX11_belts_51 : decode cX11_belts 51 = .ok (.ifCond .ne 7, 3) := by decide +kernel
theorem dX11_belts_54 : decode cX11_belts 54 = .ok (.iconst 1, 1) := by decide +kernel
theorem dX11_belts_55 : decode cX11_belts 55 = .ok (.goto 4, 3) := by decide +kernel
theorem dX11_belts_58 : decode cX11_belts 58 = .ok (.iconst 0, 1) := by decide +kernel
theorem dX11_belts_59 : decode cX11_belts 59 = .ok (.bastore, 1) := by decide +kernel
theorem dX11_belts_60 : decode cX11_belts 60 = .ok (.aload_n 0, 1) := by decide +kernel
theorem dX11_belts_61 : decode cX11_belts 61 = .ok (.getfield 35, 3) := by decide +kernel
theorem dX11_belts_64 : decode cX11_belts 64 = .ok (.iload_n 1, 1) := by decide +kernel
theorem dX11_belts_65 : decode cX11_belts 65 = .ok (.aload_n 0, 1) := by decide +kernel
theorem dX11_belts_66 : decode cX11_belts 66 = .ok (.iload_n 1, 1) := by decide +kernel
theorem dX11_belts_67 : decode cX11_belts 67 = .ok (.invokevirtual 108, 3) := by decide +kernel
theorem dX11_belts_70 : decode cX11_belts 70 = .ok (.iastore, 1) := by decide +kernel
theorem dX11_belts_71 : decode cX11_belts 71 = .ok (.iinc 1 1, 3) := by decide +kernel
theorem dX11_belts_74 : decode cX11_belts 74 = .ok (.goto (-72), 3) := by decide +kernel
theorem dX11_belts_77 : decode cX11_belts 77 = .ok (.iconst 1, 1) := by decide +kernel
theorem dX11_belts_78 : decode cX11_belts 78 = .ok (.istore_n 1, 1) := by decide +kernel
theorem dX11_belts_79 : decode cX11_belts 79 = .ok (.iload_n 1, 1) := by decide +kernel
theorem dX11_belts_80 : decode cX11_belts 80 = .ok (.ifCond .eq 52, 3) := by decide +kernel
theorem dX11_belts_83 : decode cX11_belts 83 = .ok (.iconst 0, 1) := by decide +kernel
theorem dX11_belts_84 : decode cX11_belts 84 = .ok (.istore_n 1, 1) := by decide +kernel
theorem dX11_belts_85 : decode cX11_belts 85 = .ok (.iconst 0, 1) := by decide +kernel
theorem dX11_belts_86 : decode cX11_belts 86 = .ok (.istore_n 2, 1) := by decide +kernel
theorem dX11_belts_87 : decode cX11_belts 87 = .ok (.iload_n 2, 1) := by decide +kernel
theorem dX11_belts_88 : decode cX11_belts 88 = .ok (.aload_n 0, 1) := by decide +kernel
theorem dX11_belts_89 : decode cX11_belts 89 = .ok (.getfield 7, 3) := by decide +kernel
theorem dX11_belts_92 : decode cX11_belts 92 = .ok (.iconst 0, 1) := by decide +kernel
theorem dX11_belts_93 : decode cX11_belts 93 = .ok (.iaload, 1) := by decide +kernel
theorem dX11_belts_94 : decode cX11_belts 94 = .ok (.if_icmp .ge 35, 3) := by decide +kernel
theorem dX11_belts_97 : decode cX11_belts 97 = .ok (.aload_n 0, 1) := by decide +kernel
theorem dX11_belts_98 : decode cX11_belts 98 = .ok (.getfield 31, 3) := by decide +kernel
theorem dX11_belts_101 : decode cX11_belts 101 = .ok (.iload_n 2, 1) := by decide +kernel
theorem dX11_belts_102 : decode cX11_belts 102 = .ok (.baload, 1) := by decide +kernel
theorem dX11_belts_103 : decode cX11_belts 103 = .ok (.ifCond .eq 20, 3) := by decide +kernel
theorem dX11_belts_106 : decode cX11_belts 106 = .ok (.aload_n 0, 1) := by decide +kernel
theorem dX11_belts_107 : decode cX11_belts 107 = .ok (.iload_n 2, 1) := by decide +kernel
theorem dX11_belts_108 : decode cX11_belts 108 = .ok (.invokevirtual 115, 3) := by decide +kernel
theorem dX11_belts_111 : decode cX11_belts 111 = .ok (.ifCond .eq 12, 3) := by decide +kernel
theorem dX11_belts_114 : decode cX11_belts 114 = .ok (.aload_n 0, 1) := by decide +kernel
theorem dX11_belts_115 : decode cX11_belts 115 = .ok (.getfield 31, 3) := by decide +kernel
theorem dX11_belts_118 : decode cX11_belts 118 = .ok (.iload_n 2, 1) := by decide +kernel
theorem dX11_belts_119 : decode cX11_belts 119 = .ok (.iconst 0, 1) := by decide +kernel
theorem dX11_belts_120 : decode cX11_belts 120 = .ok (.bastore, 1) := by decide +kernel
theorem dX11_belts_121 : decode cX11_belts 121 = .ok (.iconst 1, 1) := by decide +kernel
theorem dX11_belts_122 : decode cX11_belts 122 = .ok (.istore_n 1, 1) := by decide +kernel
theorem dX11_belts_123 : decode cX11_belts 123 = .ok (.iinc 2 1, 3) := by decide +kernel
theorem dX11_belts_126 : decode cX11_belts 126 = .ok (.goto (-39), 3) := by decide +kernel
theorem dX11_belts_129 : decode cX11_belts 129 = .ok (.goto (-50), 3) := by decide +kernel
theorem dX11_belts_132 : decode cX11_belts 132 = .ok (.iconst 0, 1) := by decide +kernel
theorem dX11_belts_133 : decode cX11_belts 133 = .ok (.istore_n 2, 1) := by decide +kernel
theorem dX11_belts_134 : decode cX11_belts 134 = .ok (.iload_n 2, 1) := by decide +kernel
theorem dX11_belts_135 : decode cX11_belts 135 = .ok (.aload_n 0, 1) := by decide +kernel
theorem dX11_belts_136 : decode cX11_belts 136 = .ok (.getfield 7, 3) := by decide +kernel
theorem dX11_belts_139 : decode cX11_belts 139 = .ok (.iconst 0, 1) := by decide +kernel
theorem dX11_belts_140 : decode cX11_belts 140 = .ok (.iaload, 1) := by decide +kernel
theorem dX11_belts_141 : decode cX11_belts 141 = .ok (.if_icmp .ge 29, 3) := by decide +kernel
theorem dX11_belts_144 : decode cX11_belts 144 = .ok (.aload_n 0, 1) := by decide +kernel
theorem dX11_belts_145 : decode cX11_belts 145 = .ok (.getfield 31, 3) := by decide +kernel
theorem dX11_belts_148 : decode cX11_belts 148 = .ok (.iload_n 2, 1) := by decide +kernel
theorem dX11_belts_149 : decode cX11_belts 149 = .ok (.baload, 1) := by decide +kernel
theorem dX11_belts_150 : decode cX11_belts 150 = .ok (.ifCond .eq 14, 3) := by decide +kernel
theorem dX11_belts_153 : decode cX11_belts 153 = .ok (.aload_n 0, 1) := by decide +kernel
theorem dX11_belts_154 : decode cX11_belts 154 = .ok (.iload_n 2, 1) := by decide +kernel
theorem dX11_belts_155 : decode cX11_belts 155 = .ok (.aload_n 0, 1) := by decide +kernel
theorem dX11_belts_156 : decode cX11_belts 156 = .ok (.getfield 35, 3) := by decide +kernel
theorem dX11_belts_159 : decode cX11_belts 159 = .ok (.iload_n 2, 1) := by decide +kernel
theorem dX11_belts_160 : decode cX11_belts 160 = .ok (.iaload, 1) := by decide +kernel
theorem dX11_belts_161 : decode cX11_belts 161 = .ok (.invokevirtual 83, 3) := by decide +kernel
theorem dX11_belts_164 : decode cX11_belts 164 = .ok (.iinc 2 1, 3) := by decide +kernel
theorem dX11_belts_167 : decode cX11_belts 167 = .ok (.goto (-33), 3) := by decide +kernel
theorem dX11_belts_170 : decode cX11_belts 170 = .ok (.return_, 1) := by decide +kernel
theorem dX11_gears_0 : decode cX11_gears 0 = .ok (.iconst 0, 1) := by decide +kernel
theorem dX11_gears_1 : decode cX11_gears 1 = .ok (.istore_n 1, 1) := by decide +kernel
theorem dX11_gears_2 : decode cX11_gears 2 = .ok (.iload_n 1, 1) := by decide +kernel
theorem dX11_gears_3 : decode cX11_gears 3 = .ok (.aload_n 0, 1) := by decide +kernel
