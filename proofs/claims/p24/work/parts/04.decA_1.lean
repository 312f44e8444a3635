theorem dX3_value_65 : decode cX3_value 65 = .ok (.getfield 18, 3) := by decide +kernel
theorem dX3_value_68 : decode cX3_value 68 = .ok (.ireturn, 1) := by decide +kernel
theorem dX3_value_69 : decode cX3_value 69 = .ok (.aload_n 0, 1) := by decide +kernel
theorem dX3_value_70 : decode cX3_value 70 = .ok (.invokevirtual 69, 3) := by decide +kernel
theorem dX3_value_73 : decode cX3_value 73 = .ok (.ifCond .eq 8, 3) := by decide +kernel
theorem dX3_value_76 : decode cX3_value 76 = .ok (.ldc 73, 2) := by decide +kernel
theorem dX3_value_78 : decode cX3_value 78 = .ok (.goto 7, 3) := by decide +kernel
theorem dX3_value_81 : decode cX3_value 81 = .ok (.aload_n 0, 1) := by decide +kernel
theorem dX3_value_82 : decode cX3_value 82 = .ok (.getfield 31, 3) := by decide +kernel
theorem dX3_value_85 : decode cX3_value 85 = .ok (.ireturn, 1) := by decide +kernel
theorem dX3_value_86 : decode cX3_value 86 = .ok (.aload_n 0, 1) := by decide +kernel
theorem dX3_value_87 : decode cX3_value 87 = .ok (.getfield 34, 3) := by decide +kernel
theorem dX3_value_90 : decode cX3_value 90 = .ok (.ireturn, 1) := by decide +kernel
theorem dX3_value_91 : decode cX3_value 91 = .ok (.aload_n 0, 1) := by decide +kernel
theorem dX3_value_92 : decode cX3_value 92 = .ok (.getfield 37, 3) := by decide +kernel
theorem dX3_value_95 : decode cX3_value 95 = .ok (.ireturn, 1) := by decide +kernel
theorem dX3_value_96 : decode cX3_value 96 = .ok (.aload_n 0, 1) := by decide +kernel
theorem dX3_value_97 : decode cX3_value 97 = .ok (.getfield 28, 3) := by decide +kernel
theorem dX3_value_100 : decode cX3_value 100 = .ok (.ireturn, 1) := by decide +kernel
theorem dX3_value_101 : decode cX3_value 101 = .ok (.aload_n 0, 1) := by decide +kernel
theorem dX3_value_102 : decode cX3_value 102 = .ok (.invokevirtual 74, 3) := by decide +kernel
theorem dX3_value_105 : decode cX3_value 105 = .ok (.ireturn, 1) := by decide +kernel
theorem dX3_value_106 : decode cX3_value 106 = .ok (.aload_n 0, 1) := by decide +kernel
theorem dX3_value_107 : decode cX3_value 107 = .ok (.invokevirtual 77, 3) := by decide +kernel
theorem dX3_value_110 : decode cX3_value 110 = .ok (.ireturn, 1) := by decide +kernel
theorem dX3_value_111 : decode cX3_value 111 = .ok (.aload_n 0, 1) := by decide +kernel
theorem dX3_value_112 : decode cX3_value 112 = .ok (.getfield 40, 3) := by decide +kernel
theorem dX3_value_115 : decode cX3_value 115 = .ok (.ireturn, 1) := by decide +kernel
theorem dX3_value_116 : decode cX3_value 116 = .ok (.aload_n 0, 1) := by decide +kernel
theorem dX3_value_117 : decode cX3_value 117 = .ok (.getfield 43, 3) := by decide +kernel
theorem dX3_value_120 : decode cX3_value 120 = .ok (.ireturn, 1) := by decide +kernel
theorem dX3_value_121 : decode cX3_value 121 = .ok (.ldc 80, 2) := by decide +kernel
theorem dX3_value_123 : decode cX3_value 123 = .ok (.ireturn, 1) := by decide +kernel
theorem dX4_init_0 : decode cX4_init 0 = .ok (.aload_n 0, 1) := by decide +kernel
theorem dX4_init_1 : decode cX4_init 1 = .ok (.invokespecial 3, 3) := by decide +kernel
theorem dX4_init_4 : decode cX4_init 4 = .ok (.aload_n 0, 1) := by decide +kernel
theorem dX4_init_5 : decode cX4_init 5 = .ok (.iconst 4, 1) := by decide +kernel
theorem dX4_init_6 : decode cX4_init 6 = .ok (.anewarray 9, 3) := by decide +kernel
theorem dX4_init_9 : decode cX4_init 9 = .ok (.dup, 1) := by decide +kernel
theorem dX4_init_10 : decode cX4_init 10 = .ok (.iconst 0, 1) := by decide +kernel
theorem dX4_init_11 : decode cX4_init 11 = .ok (.new 9, 3) := by decide +kernel
theorem dX4_init_14 : decode cX4_init 14 = .ok (.dup, 1) := by decide +kernel
theorem dX4_init_15 : decode cX4_init 15 = .ok (.invokespecial 11, 3) := by decide +kernel
theorem dX4_init_18 : decode cX4_init 18 = .ok (.aastore, 1) := by decide +kernel
theorem dX4_init_19 : decode cX4_init 19 = .ok (.dup, 1) := by decide +kernel
theorem dX4_init_20 : decode cX4_init 20 = .ok (.iconst 1, 1) := by decide +kernel
theorem dX4_init_21 : decode cX4_init 21 = .ok (.new 9, 3) := by decide +kernel
theorem dX4_init_24 : decode cX4_init 24 = .ok (.dup, 1) := by decide +kernel
theorem dX4_init_25 : decode cX4_init 25 = .ok (.invokespecial 11, 3) := by decide +kernel
theorem dX4_init_28 : decode cX4_init 28 = .ok (.aastore, 1) := by decide +kernel
theorem dX4_init_29 : decode cX4_init 29 = .ok (.dup, 1) := by decide +kernel
theorem dX4_init_30 : decode cX4_init 30 = .ok (.iconst 2, 1) := by decide +kernel
theorem dX4_init_31 : decode cX4_init 31 = .ok (.new 9, 3) := by decide +kernel
theorem dX4_init_34 : decode cX4_init 34 = .ok (.dup, 1) := by decide +kernel
theorem dX4_init_35 : decode cX4_init 35 = .ok (.invokespecial 11, 3) := by decide +kernel
theorem dX4_init_38 : decode cX4_init 38 = .ok (.aastore, 1) := by decide +kernel
theorem dX4_init_39 : decode cX4_init 39 = .ok (.dup, 1) := by decide +kernel
theorem dX4_init_40 : decode cX4_init 40 = .ok (.iconst 3, 1) := by decide +kernel
theorem dX4_init_41 : decode cX4_init 41 = .ok (.new 9, 3) := by decide +kernel
theorem dX4_init_44 : decode cX4_init 44 = .ok (.dup, 1) := by decide +kernel
theorem dX4_init_45 : decode cX4_init 45 = .ok (.invokespecial 11, 3) := by decide +kernel
theorem dX4_init_48 : decode cX4_init 48 = .ok (.aastore, 1) := by decide +kernel
theorem dX4_init_49 : decode cX4_init 49 = .ok (.putfield 12, 3) := by decide +kernel
theorem dX4_init_52 : decode cX4_init 52 = .ok (.return_, 1) := by decide +kernel
theorem dX4_add_0 : decode cX4_add 0 = .ok (.aload_n 0, 1) := by decide +kernel
theorem dX4_add_1 : decode cX4_add 1 = .ok (.getfield 18, 3) := by decide +kernel
theorem dX4_add_4 : decode cX4_add 4 = .ok (.iconst 4, 1) := by decide +kernel
theorem dX4_add_5 : decode cX4_add 5 = .ok (.if_icmp .ne 7, 3) := by decide +kernel
theorem dX4_add_8 : decode cX4_add 8 = .ok (.aload_n 0, 1) := by decide +kernel
theorem dX4_add_9 : decode cX4_add 9 = .ok (.invokevirtual 22, 3) := by decide +kernel
theorem dX4_add_12 : decode cX4_add 12 = .ok (.aload_n 0, 1) := by decide +kernel
theorem dX4_add_13 : decode cX4_add 13 = .ok (.getfield 12, 3) := by decide +kernel
theorem dX4_add_16 : decode cX4_add 16 = .ok (.aload_n 0, 1) := by decide +kernel
theorem dX4_add_17 : decode cX4_add 17 = .ok (.getfield 18, 3) := by decide +kernel
theorem dX4_add_20 : decode cX4_add 20 = .ok (.aaload, 1) := by decide +kernel
theorem dX4_add_21 : decode cX4_add 21 = .ok (.aload_n 1, 1) := by decide +kernel
theorem dX4_add_22 : decode cX4_add 22 = .ok (.invokevirtual 25, 3) := by decide +kernel
theorem dX4_add_25 : decode cX4_add 25 = .ok (.aload_n 0, 1) := by decide +kernel
theorem dX4_add_26 : decode cX4_add 26 = .ok (.dup, 1) := by decide +kernel
theorem dX4_add_27 : decode cX4_add 27 = .ok (.getfield 18, 3) := by decide +kernel
theorem dX4_add_30 : decode cX4_add 30 = .ok (.iconst 1, 1) := by decide +kernel
theorem dX4_add_31 : decode cX4_add 31 = .ok (.iadd, 1) := by decide +kernel
theorem dX4_add_32 : decode cX4_add 32 = .ok (.putfield 18, 3) := by decide +kernel
theorem dX4_add_35 : decode cX4_add 35 = .ok (.return_, 1) := by decide +kernel
theorem dX4_restore_0 : decode cX4_restore 0 = .ok (.aload_n 0, 1) := by decide +kernel
theorem dX4_restore_1 : decode cX4_restore 1 = .ok (.getfield 18, 3) := by decide +kernel
theorem dX4_restore_4 : decode cX4_restore 4 = .ok (.ifCond .le 26, 3) := by decide +kernel
theorem dX4_restore_7 : decode cX4_restore 7 = .ok (.aload_n 0, 1) := by decide +kernel
theorem dX4_restore_8 : decode cX4_restore 8 = .ok (.dup, 1) := by decide +kernel
theorem dX4_restore_9 : decode cX4_restore 9 = .ok (.getfield 18, 3) := by decide +kernel
theorem dX4_restore_12 : decode cX4_restore 12 = .ok (.iconst 1, 1) := by decide +kernel
theorem dX4_restore_13 : decode cX4_restore 13 = .ok (.isub, 1) := by decide +kernel
theorem dX4_restore_14 : decode cX4_restore 14 = .ok (.putfield 18, 3) := by decide +kernel
theorem dX4_restore_17 : decode cX4_restore 17 = .ok (.aload_n 1, 1) := by decide +kernel
theorem dX4_restore_18 : decode cX4_restore 18 = .ok (.aload_n 0, 1) := by decide +kernel
theorem dX4_restore_19 : decode cX4_restore 19 = .ok (.getfield 12, 3) := by decide +kernel
theorem dX4_restore_22 : decode cX4_restore 22 = .ok (.aload_n 0, 1) := by decide +kernel
theorem dX4_restore_23 : decode cX4_restore 23 = .ok (.getfield 18, 3) := by decide +kernel
theorem dX4_restore_26 : decode cX4_restore 26 = .ok (.aaload, 1) := by decide +kernel
theorem dX4_restore_27 : decode cX4_restore 27 = .ok (.invokevirtual 25, 3) := by decide +kernel
theorem dX4_restore_30 : decode cX4_restore 30 = .ok (.return_, 1) := by decide +kernel
theorem dX4_dropOldest_0 : decode cX4_dropOldest 0 = .ok (.aload_n 0, 1) := by decide +kernel
theorem dX4_dropOldest_1 : decode cX4_dropOldest 1 = .ok (.getfield 12, 3) := by decide +kernel
theorem dX4_dropOldest_4 : decode cX4_dropOldest 4 = .ok (.iconst 0, 1) := by decide +kernel
theorem dX4_dropOldest_5 : decode cX4_dropOldest 5 = .ok (.aaload, 1) := by decide +kernel
theorem dX4_dropOldest_6 : decode cX4_dropOldest 6 = .ok (.astore_n 1, 1) := by decide +kernel
theorem dX4_dropOldest_7 : decode cX4_dropOldest 7 = .ok (.iconst 1, 1) := by decide +kernel
theorem dX4_dropOldest_8 : decode cX4_dropOldest 8 = .ok (.istore_n 2, 1) := by decide +kernel
theorem dX4_dropOldest_9 : decode cX4_dropOldest 9 = .ok (.iload_n 2, 1) := by decide +kernel
theorem dX4_dropOldest_10 : decode cX4_dropOldest 10 = .ok (.iconst 4, 1) := by decide +kernel
theorem dX4_dropOldest_11 : decode cX4_dropOldest 11 = .ok (.if_icmp .ge 23, 3) := by decide +kernel
theorem dX4_dropOldest_14 : decode cX4_dropOldest 14 = .ok (.aload_n 0, 1) := by decide +kernel
theorem dX4_dropOldest_15 : decode cX4_dropOldest 15 = .ok (.getfield 12, 3) := by decide +kernel
theorem dX4_dropOldest_18 : decode cX4_dropOldest 18 = .ok (.iload_n 2, 1) := by decide +kernel
theorem dX4_dropOldest_19 : decode cX4_dropOldest 19 = .ok (.iconst 1, 1) := by decide +kernel
theorem dX4_dropOldest_20 : decode cX4_dropOldest 20 = .ok (.isub, 1) := by decide +kernel
theorem dX4_dropOldest_21 : decode cX4_dropOldest 21 = .ok (.aload_n 0, 1) := by decide +kernel
theorem dX4_dropOldest_22 : decode cX4_dropOldest 22 = .ok (.getfield 12, 3) := by decide +kernel
theorem dX4_dropOldest_25 : decode cX4_dropOldest 25 = .ok (.iload_n 2, 1) := by decide +kernel
theorem dX4_dropOldest_26 : decode cX4_dropOldest 26 = .ok (.aaload, 1) := by decide +kernel
theorem dX4_dropOldest_27 : decode cX4_dropOldest 27 = .ok (.aastore, 1) := by decide +kernel
theorem dX4_dropOldest_28 : decode cX4_dropOldest 28 = .ok (.iinc 2 1, 3) := by decide +kernel
theorem dX4_dropOldest_31 : decode cX4_dropOldest 31 = .ok (.goto (-22), 3) := by decide +kernel
theorem dX4_dropOldest_34 : decode cX4_dropOldest 34 = .ok (.aload_n 0, 1) := by decide +kernel
theorem dX4_dropOldest_35 : decode cX4_dropOldest 35 = .ok (.getfield 12, 3) := by decide +kernel
theorem dX4_dropOldest_38 : decode cX4_dropOldest 38 = .ok (.iconst 3, 1) := by decide +kernel
theorem dX4_dropOldest_39 : decode cX4_dropOldest 39 = .ok (.aload_n 1, 1) := by decide +kernel
theorem dX4_dropOldest_40 : decode cX4_dropOldest 40 = .ok (.aastore, 1) := by decide +kernel
theorem dX4_dropOldest_41 : decode cX4_dropOldest 41 = .ok (.aload_n 0, 1) := by decide +kernel
theorem dX4_dropOldest_42 : decode cX4_dropOldest 42 = .ok (.iconst 3, 1) := by decide +kernel
theorem dX4_dropOldest_43 : decode cX4_dropOldest 43 = .ok (.putfield 18, 3) := by decide +kernel
theorem dX4_dropOldest_46 : decode cX4_dropOldest 46 = .ok (.return_, 1) := by decide +kernel
theorem dX5_init_0 : decode cX5_init 0 = .ok (.aload_n 0, 1) := by decide +kernel
theorem dX5_init_1 : decode cX5_init 1 = .ok (.invokespecial 3, 3) := by decide +kernel
theorem dX5_init_4 : decode cX5_init 4 = .ok (.aload_n 0, 1) := by decide +kernel
theorem dX5_init_5 : decode cX5_init 5 = .ok (.aload_n 1, 1) := by decide +kernel
theorem dX5_init_6 : decode cX5_init 6 = .ok (.putfield 9, 3) := by decide +kernel
theorem dX5_init_9 : decode cX5_init 9 = .ok (.aload_n 0, 1) := by decide +kernel
theorem dX5_init_10 : decode cX5_init 10 = .ok (.aload_n 2, 1) := by decide +kernel
theorem dX5_init_11 : decode cX5_init 11 = .ok (.putfield 15, 3) := by decide +kernel
theorem dX5_init_14 : decode cX5_init 14 = .ok (.return_, 1) := by decide +kernel
theorem dX5_isFaulty_0 : decode cX5_isFaulty 0 = .ok (.aload_n 0, 1) := by decide +kernel
theorem dX5_isFaulty_1 : decode cX5_isFaulty 1 = .ok (.getfield 19, 3) := by decide +kernel
theorem dX5_isFaulty_4 : decode cX5_isFaulty 4 = .ok (.ifCond .eq 7, 3) := by decide +kernel
theorem dX5_isFaulty_7 : decode cX5_isFaulty 7 = .ok (.iconst 1, 1) := by decide +kernel
theorem dX5_isFaulty_8 : decode cX5_isFaulty 8 = .ok (.goto 4, 3) := by decide +kernel
theorem dX5_isFaulty_11 : decode cX5_isFaulty 11 = .ok (.iconst 0, 1) := by decide +kernel
theorem dX5_isFaulty_12 : decode cX5_isFaulty 12 = .ok (.ireturn, 1) := by decide +kernel
theorem dX5_doAll_0 : decode cX5_doAll 0 = .ok (.aload_n 0, 1) := by decide +kernel
theorem dX5_doAll_1 : decode cX5_doAll 1 = .ok (.iconst 0, 1) := by decide +kernel
theorem dX5_doAll_2 : decode cX5_doAll 2 = .ok (.putfield 23, 3) := by decide +kernel
theorem dX5_doAll_5 : decode cX5_doAll 5 = .ok (.aload_n 0, 1) := by decide +kernel
theorem dX5_doAll_6 : decode cX5_doAll 6 = .ok (.iconst 0, 1) := by decide +kernel
theorem dX5_doAll_7 : decode cX5_doAll 7 = .ok (.putfield 26, 3) := by decide +kernel
theorem dX5_doAll_10 : decode cX5_doAll 10 = .ok (.aload_n 0, 1) := by decide +kernel
theorem dX5_doAll_11 : decode cX5_doAll 11 = .ok (.iconst 0, 1) := by decide +kernel
theorem dX5_doAll_12 : decode cX5_doAll 12 = .ok (.putfield 19, 3) := by decide +kernel
theorem dX5_doAll_15 : decode cX5_doAll 15 = .ok (.aload_n 0, 1) := by decide +kernel
theorem dX5_doAll_16 : decode cX5_doAll 16 = .ok (.iconst 0, 1) := by decide +kernel
theorem dX5_doAll_17 : decode cX5_doAll 17 = .ok (.putfield 29, 3) := by decide +kernel
theorem dX5_doAll_20 : decode cX5_doAll 20 = .ok (.iconst 0, 1) := by decide +kernel
theorem dX5_doAll_21 : decode cX5_doAll 21 = .ok (.istore_n 2, 1) := by decide +kernel
theorem dX5_doAll_22 : decode cX5_doAll 22 = .ok (.iload_n 2, 1) := by decide +kernel
theorem dX5_doAll_23 : decode cX5_doAll 23 = .ok (.bipush 60, 2) := by decide +kernel
theorem dX5_doAll_25 : decode cX5_doAll 25 = .ok (.if_icmp .ge 135, 3) := by decide +kernel
theorem dX5_doAll_28 : decode cX5_doAll 28 = .ok (.aload_n 0, 1) := by decide +kernel
theorem dX5_doAll_29 : decode cX5_doAll 29 = .ok (.getfield 26, 3) := by decide +kernel
theorem dX5_doAll_32 : decode cX5_doAll 32 = .ok (.aload_n 0, 1) := by decide +kernel
theorem dX5_doAll_33 : decode cX5_doAll 33 = .ok (.getfield 9, 3) := by decide +kernel
theorem dX5_doAll_36 : decode cX5_doAll 36 = .ok (.getfield 32, 3) := by decide +kernel
theorem dX5_doAll_39 : decode cX5_doAll 39 = .ok (.if_icmp .ge 121, 3) := by decide +kernel
theorem dX5_doAll_42 : decode cX5_doAll 42 = .ok (.aload_n 0, 1) := by decide +kernel
theorem dX5_doAll_43 : decode cX5_doAll 43 = .ok (.invokevirtual 37, 3) := by decide +kernel
theorem dX5_doAll_46 : decode cX5_doAll 46 = .ok (.ifCond .ne 114, 3) := by decide +kernel
theorem dX5_doAll_49 : decode cX5_doAll 49 = .ok (.aload_n 0, 1) := by decide +kernel
theorem dX5_doAll_50 : decode cX5_doAll 50 = .ok (.getfield 9, 3) := by decide +kernel
theorem dX5_doAll_53 : decode cX5_doAll 53 = .ok (.aload_n 0, 1) := by decide +kernel
theorem dX5_doAll_54 : decode cX5_doAll 54 = .ok (.getfield 26, 3) := by decide +kernel
theorem dX5_doAll_57 : decode cX5_doAll 57 = .ok (.invokevirtual 41, 3) := by decide +kernel
theorem dX5_doAll_60 : decode cX5_doAll 60 = .ok (.istore_n 3, 1) := by decide +kernel
theorem dX5_doAll_61 : decode cX5_doAll 61 = .ok (.iload_n 3, 1) := by decide +kernel
theorem dX5_doAll_62 : decode cX5_doAll 62 = .ok (.ifCond .eq 18, 3) := by decide +kernel
theorem dX5_doAll_65 : decode cX5_doAll 65 = .ok (.aload_n 0, 1) := by decide +kernel
theorem dX5_doAll_66 : decode cX5_doAll 66 = .ok (.aload_n 1, 1) := by decide +kernel
theorem dX5_doAll_67 : decode cX5_doAll 67 = .ok (.aload_n 0, 1) := by decide +kernel
theorem dX5_doAll_68 : decode cX5_doAll 68 = .ok (.getfield 9, 3) := by decide +kernel
theorem dX5_doAll_71 : decode cX5_doAll 71 = .ok (.getfield 45, 3) := by decide +kernel
theorem dX5_doAll_74 : decode cX5_doAll 74 = .ok (.invokevirtual 49, 3) := by decide +kernel
theorem dX5_doAll_77 : decode cX5_doAll 77 = .ok (.goto 4, 3) := by decide +kernel
theorem dX5_doAll_80 : decode cX5_doAll 80 = .ok (.iconst 0, 1) := by decide +kernel
theorem dX5_doAll_81 : decode cX5_doAll 81 = .ok (.istore 4, 2) := by decide +kernel
theorem dX5_doAll_83 : decode cX5_doAll 83 = .ok (.iload_n 3, 1) := by decide +kernel
theorem dX5_doAll_84 : decode cX5_doAll 84 = .ok (.ifCond .ne 27, 3) := by decide +kernel
theorem dX5_doAll_87 : decode cX5_doAll 87 = .ok (.aload_n 0, 1) := by decide +kernel
theorem dX5_doAll_88 : decode cX5_doAll 88 = .ok (.iconst 1, 1) := by decide +kernel
theorem dX5_doAll_89 : decode cX5_doAll 89 = .ok (.putfield 19, 3) := by decide +kernel
theorem dX5_doAll_92 : decode cX5_doAll 92 = .ok (.aload_n 0, 1) := by decide +kernel
theorem dX5_doAll_93 : decode cX5_doAll 93 = .ok (.aload_n 0, 1) := by decide +kernel
theorem dX5_doAll_94 : decode cX5_doAll 94 = .ok (.getfield 9, 3) := by decide +kernel
theorem dX5_doAll_97 : decode cX5_doAll 97 = .ok (.getfield 53, 3) := by decide +kernel
theorem dX5_doAll_100 : decode cX5_doAll 100 = .ok (.aload_n 0, 1) := by decide +kernel
theorem dX5_doAll_101 : decode cX5_doAll 101 = .ok (.getfield 26, 3) := by decide +kernel
theorem dX5_doAll_104 : decode cX5_doAll 104 = .ok (.isub, 1) := by decide +kernel
theorem dX5_doAll_105 : decode cX5_doAll 105 = .ok (.putfield 29, 3) := by decide +kernel
theorem dX5_doAll_108 : decode cX5_doAll 108 = .ok (.goto 46, 3) := by decide +kernel
theorem dX5_doAll_111 : decode cX5_doAll 111 = .ok (.iload 4, 2) := by decide +kernel
theorem dX5_doAll_113 : decode cX5_doAll 113 = .ok (.invokestatic 56, 3) := by decide +kernel
theorem dX5_doAll_116 : decode cX5_doAll 116 = .ok (.ifCond .eq 17, 3) := by decide +kernel
theorem dX5_doAll_119 : decode cX5_doAll 119 = .ok (.aload_n 0, 1) := by decide +kernel
theorem dX5_doAll_120 : decode cX5_doAll 120 = .ok (.iconst 2, 1) := by decide +kernel
theorem dX5_doAll_121 : decode cX5_doAll 121 = .ok (.putfield 19, 3) := by decide +kernel
theorem dX5_doAll_124 : decode cX5_doAll 124 = .ok (.aload_n 0, 1) := by decide +kernel
theorem dX5_doAll_125 : decode cX5_doAll 125 = .ok (.iload 4, 2) := by decide +kernel
theorem dX5_doAll_127 : decode cX5_doAll 127 = .ok (.putfield 29, 3) := by decide +kernel
theorem dX5_doAll_130 : decode cX5_doAll 130 = .ok (.goto 24, 3) := by decide +kernel
theorem dX5_doAll_133 : decode cX5_doAll 133 = .ok (.aload_n 0, 1) := by decide +kernel
theorem dX5_doAll_134 : decode cX5_doAll 134 = .ok (.aload_n 0, 1) := by decide +kernel
theorem dX5_doAll_135 : decode cX5_doAll 135 = .ok (.getfield 9, 3) := by decide +kernel
theorem dX5_doAll_138 : decode cX5_doAll 138 = .ok (.getfield 53, 3) := by decide +kernel
theorem dX5_doAll_141 : decode cX5_doAll 141 = .ok (.putfield 26, 3) := by decide +kernel
theorem dX5_doAll_144 : decode cX5_doAll 144 = .ok (.aload_n 0, 1) := by decide +kernel
theorem dX5_doAll_145 : decode cX5_doAll 145 = .ok (.dup, 1) := by decide +kernel
theorem dX5_doAll_146 : decode cX5_doAll 146 = .ok (.getfield 23, 3) := by decide +kernel
theorem dX5_doAll_149 : decode cX5_doAll 149 = .ok (.iconst 1, 1) := by decide +kernel
theorem dX5_doAll_150 : decode cX5_doAll 150 = .ok (.iadd, 1) := by decide +kernel
theorem dX5_doAll_151 : decode cX5_doAll 151 = .ok (.putfield 23, 3) := by decide +kernel
theorem dX5_doAll_154 : decode cX5_doAll 154 = .ok (.iinc 2 1, 3) := by decide +kernel
theorem dX5_doAll_157 : decode cX5_doAll 157 = .ok (.goto (-135), 3) := by decide +kernel
theorem dX5_doAll_160 : decode cX5_doAll 160 = .ok (.return_, 1) := by decide +kernel
theorem dX5_obey_0 : decode cX5_obey 0 = .ok (.aload_n 0, 1) := by decide +kernel
theorem dX5_obey_1 : decode cX5_obey 1 = .ok (.getfield 9, 3) := by decide +kernel
theorem dX5_obey_4 : decode cX5_obey 4 = .ok (.getfield 59, 3) := by decide +kernel
theorem dX5_obey_7 : decode cX5_obey 7 = .ok (.lookupswitch 91 #[(99, 63), (107, 41), (112, 74), (119, 52)], 41) := by decide +kernel
theorem dX5_obey_48 : decode cX5_obey 48 = .ok (.aload_n 1, 1) := by decide +kernel
theorem dX5_obey_49 : decode cX5_obey 49 = .ok (.aload_n 2, 1) := by decide +kernel
theorem dX5_obey_50 : decode cX5_obey 50 = .ok (.iconst 0, 1) := by decide +kernel
theorem dX5_obey_51 : decode cX5_obey 51 = .ok (.iaload, 1) := by decide +kernel
theorem dX5_obey_52 : decode cX5_obey 52 = .ok (.aload_n 2, 1) := by decide +kernel
theorem dX5_obey_53 : decode cX5_obey 53 = .ok (.iconst 1, 1) := by decide +kernel
theorem dX5_obey_54 : decode cX5_obey 54 = .ok (.iaload, 1) := by decide +kernel
theorem dX5_obey_55 : decode cX5_obey 55 = .ok (.invokevirtual 63, 3) := by decide +kernel
theorem dX5_obey_58 : decode cX5_obey 58 = .ok (.ireturn, 1) := by decide +kernel
theorem dX5_obey_59 : decode cX5_obey 59 = .ok (.aload_n 1, 1) := by decide +kernel
theorem dX5_obey_60 : decode cX5_obey 60 = .ok (.aload_n 2, 1) := by decide +kernel
theorem dX5_obey_61 : decode cX5_obey 61 = .ok (.iconst 0, 1) := by decide +kernel
theorem dX5_obey_62 : decode cX5_obey 62 = .ok (.iaload, 1) := by decide +kernel
theorem dX5_obey_63 : decode cX5_obey 63 = .ok (.aload_n 2, 1) := by decide +kernel
theorem dX5_obey_64 : decode cX5_obey 64 = .ok (.iconst 1, 1) := by decide +kernel
theorem dX5_obey_65 : decode cX5_obey 65 = .ok (.iaload, 1) := by decide +kernel
theorem dX5_obey_66 : decode cX5_obey 66 = .ok (.invokevirtual 69, 3) := by decide +kernel
theorem dX5_obey_69 : decode cX5_obey 69 = .ok (.ireturn, 1) := by decide +kernel
theorem dX5_obey_70 : decode cX5_obey 70 = .ok (.aload_n 1, 1) := by decide +kernel
theorem dX5_obey_71 : decode cX5_obey 71 = .ok (.aload_n 2, 1) := by decide +kernel
theorem dX5_obey_72 : decode cX5_obey 72 = .ok (.iconst 0, 1) := by decide +kernel
theorem dX5_obey_73 : decode cX5_obey 73 = .ok (.iaload, 1) := by decide +kernel
theorem dX5_obey_74 : decode cX5_obey 74 = .ok (.aload_n 2, 1) := by decide +kernel
theorem dX5_obey_75 : decode cX5_obey 75 = .ok (.iconst 1, 1) := by decide +kernel
theorem dX5_obey_76 : decode cX5_obey 76 = .ok (.iaload, 1) := by decide +kernel
theorem dX5_obey_77 : decode cX5_obey 77 = .ok (.invokevirtual 72, 3) := by decide +kernel
theorem dX5_obey_80 : decode cX5_obey 80 = .ok (.ireturn, 1) := by decide +kernel
theorem dX5_obey_81 : decode cX5_obey 81 = .ok (.aload_n 1, 1) := by decide +kernel
theorem dX5_obey_82 : decode cX5_obey 82 = .ok (.aload_n 2, 1) := by decide +kernel
theorem dX5_obey_83 : decode cX5_obey 83 = .ok (.iconst 0, 1) := by decide +kernel
theorem dX5_obey_84 : decode cX5_obey 84 = .ok (.iaload, 1) := by decide +kernel
theorem dX5_obey_85 : decode cX5_obey 85 = .ok (.aload_n 2, 1) := by decide +kernel
theorem dX5_obey_86 : decode cX5_obey 86 = .ok (.iconst 1, 1) := by decide +kernel
theorem dX5_obey_87 : decode cX5_obey 87 = .ok (.iaload, 1) := by decide +kernel
theorem dX5_obey_88 : decode cX5_obey 88 = .ok (.aload_n 2, 1) := by decide +kernel
theorem dX5_obey_89 : decode cX5_obey 89 = .ok (.iconst 2, 1) := by decide +kernel
theorem dX5_obey_90 : decode cX5_obey 90 = .ok (.iaload, 1) := by decide +kernel
theorem dX5_obey_91 : decode cX5_obey 91 = .ok (.aload_n 2, 1) := by decide +kernel
theorem dX5_obey_92 : decode cX5_obey 92 = .ok (.iconst 3, 1) := by decide +kernel
theorem dX5_obey_93 : decode cX5_obey 93 = .ok (.iaload, 1) := by decide +kernel
theorem dX5_obey_94 : decode cX5_obey 94 = .ok (.invokevirtual 75, 3) := by decide +kernel
theorem dX5_obey_97 : decode cX5_obey 97 = .ok (.ireturn, 1) := by decide +kernel
theorem dX5_obey_98 : decode cX5_obey 98 = .ok (.aload_n 0, 1) := by decide +kernel
theorem dX5_obey_99 : decode cX5_obey 99 = .ok (.getfield 15, 3) := by decide +kernel
theorem dX5_obey_102 : decode cX5_obey 102 = .ok (.aload_n 1, 1) := by decide +kernel
theorem dX5_obey_103 : decode cX5_obey 103 = .ok (.invokevirtual 79, 3) := by decide +kernel
theorem dX5_obey_106 : decode cX5_obey 106 = .ok (.ireturn, 1) := by decide +kernel
theorem dX6_init_0 : decode cX6_init 0 = .ok (.aload_n 0, 1) := by decide +kernel
theorem dX6_init_1 : decode cX6_init 1 = .ok (.invokespecial 3, 3) := by decide +kernel
theorem dX6_init_4 : decode cX6_init 4 = .ok (.aload_n 0, 1) := by decide +kernel
theorem dX6_init_5 : decode cX6_init 5 = .ok (.bipush 60, 2) := by decide +kernel
theorem dX6_init_7 : decode cX6_init 7 = .ok (.newarray .char, 2) := by decide +kernel
theorem dX6_init_9 : decode cX6_init 9 = .ok (.putfield 9, 3) := by decide +kernel
theorem dX6_init_12 : decode cX6_init 12 = .ok (.aload_n 0, 1) := by decide +kernel
theorem dX6_init_13 : decode cX6_init 13 = .ok (.iconst 4, 1) := by decide +kernel
theorem dX6_init_14 : decode cX6_init 14 = .ok (.newarray .int, 2) := by decide +kernel
theorem dX6_init_16 : decode cX6_init 16 = .ok (.putfield 15, 3) := by decide +kernel
theorem dX6_init_19 : decode cX6_init 19 = .ok (.return_, 1) := by decide +kernel
theorem dX6_append_0 : decode cX6_append 0 = .ok (.aload_n 0, 1) := by decide +kernel
theorem dX6_append_1 : decode cX6_append 1 = .ok (.getfield 19, 3) := by decide +kernel
theorem dX6_append_4 : decode cX6_append 4 = .ok (.bipush 60, 2) := by decide +kernel
theorem dX6_append_6 : decode cX6_append 6 = .ok (.if_icmp .lt 6, 3) := by decide +kernel
theorem dX6_append_9 : decode cX6_append 9 = .ok (.ldc 23, 2) := by decide +kernel
theorem dX6_append_11 : decode cX6_append 11 = .ok (.ireturn, 1) := by decide +kernel
theorem dX6_append_12 : decode cX6_append 12 = .ok (.aload_n 0, 1) := by decide +kernel
theorem dX6_append_13 : decode cX6_append 13 = .ok (.getfield 9, 3) := by decide +kernel
theorem dX6_append_16 : decode cX6_append 16 = .ok (.aload_n 0, 1) := by decide +kernel
theorem dX6_append_17 : decode cX6_append 17 = .ok (.getfield 19, 3) := by decide +kernel
theorem dX6_append_20 : decode cX6_append 20 = .ok (.iload_n 1, 1) := by decide +kernel
theorem dX6_append_21 : decode cX6_append 21 = .ok (.castore, 1) := by decide +kernel
theorem dX6_append_22 : decode cX6_append 22 = .ok (.aload_n 0, 1) := by decide +kernel
theorem dX6_append_23 : decode cX6_append 23 = .ok (.dup, 1) := by decide +kernel
theorem dX6_append_24 : decode cX6_append 24 = .ok (.getfield 19, 3) := by decide +kernel
theorem dX6_append_27 : decode cX6_append 27 = .ok (.iconst 1, 1) := by decide +kernel
theorem dX6_append_28 : decode cX6_append 28 = .ok (.iadd, 1) := by decide +kernel
theorem dX6_append_29 : decode cX6_append 29 = .ok (.putfield 19, 3) := by decide +kernel
theorem dX6_append_32 : decode cX6_append 32 = .ok (.aload_n 0, 1) := by decide +kernel
theorem dX6_append_33 : decode cX6_append 33 = .ok (.getfield 19, 3) := by decide +kernel
theorem dX6_append_36 : decode cX6_append 36 = .ok (.ireturn, 1) := by decide +kernel
theorem dX6_read_0 : decode cX6_read 0 = .ok (.aload_n 0, 1) := by decide +kernel
theorem dX6_read_1 : decode cX6_read 1 = .ok (.iload_n 1, 1) := by decide +kernel
theorem dX6_read_2 : decode cX6_read 2 = .ok (.putfield 24, 3) := by decide +kernel
theorem dX6_read_5 : decode cX6_read 5 = .ok (.aload_n 0, 1) := by decide +kernel
theorem dX6_read_6 : decode cX6_read 6 = .ok (.aload_n 0, 1) := by decide +kernel
theorem dX6_read_7 : decode cX6_read 7 = .ok (.getfield 24, 3) := by decide +kernel
theorem dX6_read_10 : decode cX6_read 10 = .ok (.aload_n 0, 1) := by decide +kernel
theorem dX6_read_11 : decode cX6_read 11 = .ok (.getfield 19, 3) := by decide +kernel
theorem dX6_read_14 : decode cX6_read 14 = .ok (.if_icmp .ge 15, 3) := by decide +kernel
theorem dX6_read_17 : decode cX6_read 17 = .ok (.aload_n 0, 1) := by decide +kernel
theorem dX6_read_18 : decode cX6_read 18 = .ok (.getfield 9, 3) := by decide +kernel
theorem dX6_read_21 : decode cX6_read 21 = .ok (.aload_n 0, 1) := by decide +kernel
theorem dX6_read_22 : decode cX6_read 22 = .ok (.getfield 24, 3) := by decide +kernel
theorem dX6_read_25 : decode cX6_read 25 = .ok (.caload, 1) := by decide +kernel
theorem dX6_read_26 : decode cX6_read 26 = .ok (.goto 5, 3) := by decide +kernel
theorem dX6_read_29 : decode cX6_read 29 = .ok (.bipush 32, 2) := by decide +kernel
theorem dX6_read_31 : decode cX6_read 31 = .ok (.putfield 27, 3) := by decide +kernel
theorem dX6_read_34 : decode cX6_read 34 = .ok (.aload_n 0, 1) := by decide +kernel
theorem dX6_read_35 : decode cX6_read 35 = .ok (.getfield 27, 3) := by decide +kernel
theorem dX6_read_38 : decode cX6_read 38 = .ok (.invokestatic 31, 3) := by decide +kernel
theorem dX6_read_41 : decode cX6_read 41 = .ok (.istore_n 2, 1) := by decide +kernel
theorem dX6_read_42 : decode cX6_read 42 = .ok (.iload_n 2, 1) := by decide +kernel
theorem dX6_read_43 : decode cX6_read 43 = .ok (.iconst (-1), 1) := by decide +kernel
theorem dX6_read_44 : decode cX6_read 44 = .ok (.if_icmp .ne 5, 3) := by decide +kernel
theorem dX6_read_47 : decode cX6_read 47 = .ok (.iconst 0, 1) := by decide +kernel
theorem dX6_read_48 : decode cX6_read 48 = .ok (.ireturn, 1) := by decide +kernel
theorem dX6_read_49 : decode cX6_read 49 = .ok (.aload_n 0, 1) := by decide +kernel
theorem dX6_read_50 : decode cX6_read 50 = .ok (.dup, 1) := by decide +kernel
theorem dX6_read_51 : decode cX6_read 51 = .ok (.getfield 24, 3) := by decide +kernel
theorem dX6_read_54 : decode cX6_read 54 = .ok (.iconst 1, 1) := by decide +kernel
theorem dX6_read_55 : decode cX6_read 55 = .ok (.iadd, 1) := by decide +kernel
theorem dX6_read_56 : decode cX6_read 56 = .ok (.putfield 24, 3) := by decide +kernel
theorem dX6_read_59 : decode cX6_read 59 = .ok (.iconst 0, 1) := by decide +kernel
theorem dX6_read_60 : decode cX6_read 60 = .ok (.istore_n 3, 1) := by decide +kernel
theorem dX6_read_61 : decode cX6_read 61 = .ok (.iload_n 3, 1) := by decide +kernel
theorem dX6_read_62 : decode cX6_read 62 = .ok (.iload_n 2, 1) := by decide +kernel
theorem dX6_read_63 : decode cX6_read 63 = .ok (.if_icmp .ge 32, 3) := by decide +kernel
theorem dX6_read_66 : decode cX6_read 66 = .ok (.iload_n 3, 1) := by decide +kernel
theorem dX6_read_67 : decode cX6_read 67 = .ok (.ifCond .le 12, 3) := by decide +kernel
theorem dX6_read_70 : decode cX6_read 70 = .ok (.aload_n 0, 1) := by decide +kernel
theorem dX6_read_71 : decode cX6_read 71 = .ok (.bipush 44, 2) := by decide +kernel
theorem dX6_read_73 : decode cX6_read 73 = .ok (.invokevirtual 35, 3) := by decide +kernel
theorem dX6_read_76 : decode cX6_read 76 = .ok (.ifCond .eq 11, 3) := by decide +kernel
theorem dX6_read_79 : decode cX6_read 79 = .ok (.aload_n 0, 1) := by decide +kernel
theorem dX6_read_80 : decode cX6_read 80 = .ok (.iload_n 3, 1) := by decide +kernel
theorem dX6_read_81 : decode cX6_read 81 = .ok (.invokevirtual 39, 3) := by decide +kernel
theorem dX6_read_84 : decode cX6_read 84 = .ok (.ifCond .ne 5, 3) := by decide +kernel
theorem dX6_read_87 : decode cX6_read 87 = .ok (.iconst 0, 1) := by decide +kernel
theorem dX6_read_88 : decode cX6_read 88 = .ok (.ireturn, 1) := by decide +kernel
theorem dX6_read_89 : decode cX6_read 89 = .ok (.iinc 3 1, 3) := by decide +kernel
theorem dX6_read_92 : decode cX6_read 92 = .ok (.goto (-31), 3) := by decide +kernel
theorem dX6_read_95 : decode cX6_read 95 = .ok (.aload_n 0, 1) := by decide +kernel
theorem dX6_read_96 : decode cX6_read 96 = .ok (.bipush 59, 2) := by decide +kernel
theorem dX6_read_98 : decode cX6_read 98 = .ok (.invokevirtual 35, 3) := by decide +kernel
theorem dX6_read_101 : decode cX6_read 101 = .ok (.ireturn, 1) := by decide +kernel
theorem dX6_numbersBehind_0 : decode cX6_numbersBehind 0 = .ok (.iload_n 0, 1) := by decide +kernel
theorem dX6_numbersBehind_1 : decode cX6_numbersBehind 1 = .ok (.lookupswitch 57 #[(99, 51), (107, 51), (112, 53), (114, 55), (119, 51)], 51) := by decide +kernel
theorem dX6_numbersBehind_52 : decode cX6_numbersBehind 52 = .ok (.iconst 2, 1) := by decide +kernel
theorem dX6_numbersBehind_53 : decode cX6_numbersBehind 53 = .ok (.ireturn, 1) := by decide +kernel
theorem dX6_numbersBehind_54 : decode cX6_numbersBehind 54 = .ok (.iconst 4, 1) := by decide +kernel
theorem dX6_numbersBehind_55 : decode cX6_numbersBehind 55 = .ok (.ireturn, 1) := by decide +kernel
theorem dX6_numbersBehind_56 : decode cX6_numbersBehind 56 = .ok (.iconst 0, 1) := by decide +kernel
theorem dX6_numbersBehind_57 : decode cX6_numbersBehind 57 = .ok (.ireturn, 1) := by decide +kernel
theorem dX6_numbersBehind_58 : decode cX6_numbersBehind 58 = .ok (.iconst (-1), 1) := by decide +kernel
theorem dX6_numbersBehind_59 : decode cX6_numbersBehind 59 = .ok (.ireturn, 1) := by decide +kernel
theorem dX6_take_0 : decode cX6_take 0 = .ok (.aload_n 0, 1) := by decide +kernel
theorem dX6_take_1 : decode cX6_take 1 = .ok (.getfield 24, 3) := by decide +kernel
theorem dX6_take_4 : decode cX6_take 4 = .ok (.aload_n 0, 1) := by decide +kernel
theorem dX6_take_5 : decode cX6_take 5 = .ok (.getfield 19, 3) := by decide +kernel
theorem dX6_take_8 : decode cX6_take 8 = .ok (.if_icmp .ge 16, 3) := by decide +kernel
theorem dX6_take_11 : decode cX6_take 11 = .ok (.aload_n 0, 1) := by decide +kernel
theorem dX6_take_12 : decode cX6_take 12 = .ok (.getfield 9, 3) := by decide +kernel
theorem dX6_take_15 : decode cX6_take 15 = .ok (.aload_n 0, 1) := by decide +kernel
theorem dX6_take_16 : decode cX6_take 16 = .ok (.getfield 24, 3) := by decide +kernel
theorem dX6_take_19 : decode cX6_take 19 = .ok (.caload, 1) := by decide +kernel
theorem dX6_take_20 : decode cX6_take 20 = .ok (.iload_n 1, 1) := by decide +kernel
theorem dX6_take_21 : decode cX6_take 21 = .ok (.if_icmp .eq 5, 3) := by decide +kernel
theorem dX6_take_24 : decode cX6_take 24 = .ok (.iconst 0, 1) := by decide +kernel
theorem dX6_take_25 : decode cX6_take 25 = .ok (.ireturn, 1) := by decide +kernel
theorem dX6_take_26 : decode cX6_take 26 = .ok (.aload_n 0, 1) := by decide +kernel
theorem dX6_take_27 : decode cX6_take 27 = .ok (.dup, 1) := by decide +kernel
theorem dX6_take_28 : decode cX6_take 28 = .ok (.getfield 24, 3) := by decide +kernel
theorem dX6_take_31 : decode cX6_take 31 = .ok (.iconst 1, 1) := by decide +kernel
theorem dX6_take_32 : decode cX6_take 32 = .ok (.iadd, 1) := by decide +kernel
theorem dX6_take_33 : decode cX6_take 33 = .ok (.putfield 24, 3) := by decide +kernel
theorem dX6_take_36 : decode cX6_take 36 = .ok (.iconst 1, 1) := by decide +kernel
theorem dX6_take_37 : decode cX6_take 37 = .ok (.ireturn, 1) := by decide +kernel
theorem dX6_takeNumber_0 : decode cX6_takeNumber 0 = .ok (.iconst 0, 1) := by decide +kernel
theorem dX6_takeNumber_1 : decode cX6_takeNumber 1 = .ok (.istore_n 2, 1) := by decide +kernel
theorem dX6_takeNumber_2 : decode cX6_takeNumber 2 = .ok (.iconst 0, 1) := by decide +kernel
theorem dX6_takeNumber_3 : decode cX6_takeNumber 3 = .ok (.istore_n 3, 1) := by decide +kernel
theorem dX6_takeNumber_4 : decode cX6_takeNumber 4 = .ok (.iload_n 3, 1) := by decide +kernel
theorem dX6_takeNumber_5 : decode cX6_takeNumber 5 = .ok (.iconst 3, 1) := by decide +kernel
theorem dX6_takeNumber_6 : decode cX6_takeNumber 6 = .ok (.if_icmp .ge 76, 3) := by decide +kernel
theorem dX6_takeNumber_9 : decode cX6_takeNumber 9 = .ok (.aload_n 0, 1) := by decide +kernel
theorem dX6_takeNumber_10 : decode cX6_takeNumber 10 = .ok (.getfield 24, 3) := by decide +kernel
theorem dX6_takeNumber_13 : decode cX6_takeNumber 13 = .ok (.aload_n 0, 1) := by decide +kernel
theorem dX6_takeNumber_14 : decode cX6_takeNumber 14 = .ok (.getfield 19, 3) := by decide +kernel
theorem dX6_takeNumber_17 : decode cX6_takeNumber 17 = .ok (.if_icmp .ge 65, 3) := by decide +kernel
theorem dX6_takeNumber_20 : decode cX6_takeNumber 20 = .ok (.aload_n 0, 1) := by decide +kernel
theorem dX6_takeNumber_21 : decode cX6_takeNumber 21 = .ok (.getfield 9, 3) := by decide +kernel
theorem dX6_takeNumber_24 : decode cX6_takeNumber 24 = .ok (.aload_n 0, 1) := by decide +kernel
theorem dX6_takeNumber_25 : decode cX6_takeNumber 25 = .ok (.getfield 24, 3) := by decide +kernel
theorem dX6_takeNumber_28 : decode cX6_takeNumber 28 = .ok (.caload, 1) := by decide +kernel
theorem dX6_takeNumber_29 : decode cX6_takeNumber 29 = .ok (.bipush 48, 2) := by decide +kernel
theorem dX6_takeNumber_31 : decode cX6_takeNumber 31 = .ok (.if_icmp .lt 51, 3) := by decide +kernel
theorem dX6_takeNumber_34 : decode cX6_takeNumber 34 = .ok (.aload_n 0, 1) := by decide +kernel
theorem dX6_takeNumber_35 : decode cX6_takeNumber 35 = .ok (.getfield 9, 3) := by decide +kernel
theorem dX6_takeNumber_38 : decode cX6_takeNumber 38 = .ok (.aload_n 0, 1) := by decide +kernel
theorem dX6_takeNumber_39 : decode cX6_takeNumber 39 = .ok (.getfield 24, 3) := by decide +kernel
theorem dX6_takeNumber_42 : decode cX6_takeNumber 42 = .ok (.caload, 1) := by decide +kernel
theorem dX6_takeNumber_43 : decode cX6_takeNumber 43 = .ok (.bipush 57, 2) := by decide +kernel
theorem dX6_takeNumber_45 : decode cX6_takeNumber 45 = .ok (.if_icmp .gt 37, 3) := by decide +kernel
theorem dX6_takeNumber_48 : decode cX6_takeNumber 48 = .ok (.iload_n 2, 1) := by decide +kernel
theorem dX6_takeNumber_49 : decode cX6_takeNumber 49 = .ok (.bipush 10, 2) := by decide +kernel
theorem dX6_takeNumber_51 : decode cX6_takeNumber 51 = .ok (.imul, 1) := by decide +kernel
theorem dX6_takeNumber_52 : decode cX6_takeNumber 52 = .ok (.aload_n 0, 1) := by decide +kernel
theorem dX6_takeNumber_53 : decode cX6_takeNumber 53 = .ok (.getfield 9, 3) := by decide +kernel
theorem dX6_takeNumber_56 : decode cX6_takeNumber 56 = .ok (.aload_n 0, 1) := by decide +kernel
theorem dX6_takeNumber_57 : decode cX6_takeNumber 57 = .ok (.getfield 24, 3) := by decide +kernel
theorem dX6_takeNumber_60 : decode cX6_takeNumber 60 = .ok (.caload, 1) := by decide +kernel
theorem dX6_takeNumber_61 : decode cX6_takeNumber 61 = .ok (.bipush 48, 2) := by decide +kernel
theorem dX6_takeNumber_63 : decode cX6_takeNumber 63 = .ok (.isub, 1) := by decide +kernel
theorem dX6_takeNumber_64 : decode cX6_takeNumber 64 = .ok (.iadd, 1) := by decide +kernel
theorem dX6_takeNumber_65 : decode cX6_takeNumber 65 = .ok (.istore_n 2, 1) := by decide +kernel
theorem dX6_takeNumber_66 : decode cX6_takeNumber 66 = .ok (.iinc 3 1, 3) := by decide +kernel
theorem dX6_takeNumber_69 : decode cX6_takeNumber 69 = .ok (.aload_n 0, 1) := by decide +kernel
theorem dX6_takeNumber_70 : decode cX6_takeNumber 70 = .ok (.dup, 1) := by decide +kernel
theorem dX6_takeNumber_71 : decode cX6_takeNumber 71 = .ok (.getfield 24, 3) := by decide +kernel
theorem dX6_takeNumber_74 : decode cX6_takeNumber 74 = .ok (.iconst 1, 1) := by decide +kernel
theorem dX6_takeNumber_75 : decode cX6_takeNumber 75 = .ok (.iadd, 1) := by decide +kernel
theorem dX6_takeNumber_76 : decode cX6_takeNumber 76 = .ok (.putfield 24, 3) := by decide +kernel
theorem dX6_takeNumber_79 : decode cX6_takeNumber 79 = .ok (.goto (-75), 3) := by decide +kernel
theorem dX6_takeNumber_82 : decode cX6_takeNumber 82 = .ok (.aload_n 0, 1) := by decide +kernel
theorem dX6_takeNumber_83 : decode cX6_takeNumber 83 = .ok (.getfield 15, 3) := by decide +kernel
theorem dX6_takeNumber_86 : decode cX6_takeNumber 86 = .ok (.iload_n 1, 1) := by decide +kernel
theorem dX6_takeNumber_87 : decode cX6_takeNumber 87 = .ok (.iload_n 2, 1) := by decide +kernel
theorem dX6_takeNumber_88 : decode cX6_takeNumber 88 = .ok (.iastore, 1) := by decide +kernel
theorem dX6_takeNumber_89 : decode cX6_takeNumber 89 = .ok (.iload_n 3, 1) := by decide +kernel
theorem dX6_takeNumber_90 : decode cX6_takeNumber 90 = .ok (.ifCond .le 7, 3) := by decide +kernel
theorem dX6_takeNumber_93 : decode cX6_takeNumber 93 = .ok (.iconst 1, 1) := by decide +kernel
theorem dX6_takeNumber_94 : decode cX6_takeNumber 94 = .ok (.goto 4, 3) := by decide +kernel
theorem dX6_takeNumber_97 : decode cX6_takeNumber 97 = .ok (.iconst 0, 1) := by decide +kernel
theorem dX6_takeNumber_98 : decode cX6_takeNumber 98 = .ok (.ireturn, 1) := by decide +kernel
theorem dX7_init_0 : decode cX7_init 0 = .ok (.aload_n 0, 1) := by decide +kernel
theorem dX7_init_1 : decode cX7_init 1 = .ok (.invokespecial 3, 3) := by decide +kernel
theorem dX7_init_4 : decode cX7_init 4 = .ok (.aload_n 0, 1) := by decide +kernel
theorem dX7_init_5 : decode cX7_init 5 = .ok (.new 9, 3) := by decide +kernel
theorem dX7_init_8 : decode cX7_init 8 = .ok (.dup, 1) := by decide +kernel
theorem dX7_init_9 : decode cX7_init 9 = .ok (.invokespecial 11, 3) := by decide +kernel
theorem dX7_init_12 : decode cX7_init 12 = .ok (.putfield 12, 3) := by decide +kernel
theorem dX7_init_15 : decode cX7_init 15 = .ok (.aload_n 0, 1) := by decide +kernel
theorem dX7_init_16 : decode cX7_init 16 = .ok (.new 18, 3) := by decide +kernel
theorem dX7_init_19 : decode cX7_init 19 = .ok (.dup, 1) := by decide +kernel
theorem dX7_init_20 : decode cX7_init 20 = .ok (.invokespecial 20, 3) := by decide +kernel
theorem dX7_init_23 : decode cX7_init 23 = .ok (.putfield 21, 3) := by decide +kernel
theorem dX7_init_26 : decode cX7_init 26 = .ok (.return_, 1) := by decide +kernel
theorem dX7_runNext_0 : decode cX7_runNext 0 = .ok (.aload_n 1, 1) := by decide +kernel
theorem dX7_runNext_1 : decode cX7_runNext 1 = .ok (.getfield 25, 3) := by decide +kernel
theorem dX7_runNext_4 : decode cX7_runNext 4 = .ok (.ifCond .ne 6, 3) := by decide +kernel
theorem dX7_runNext_7 : decode cX7_runNext 7 = .ok (.ldc 31, 2) := by decide +kernel
theorem dX7_runNext_9 : decode cX7_runNext 9 = .ok (.ireturn, 1) := by decide +kernel
theorem dX7_runNext_10 : decode cX7_runNext 10 = .ok (.aload_n 1, 1) := by decide +kernel
theorem dX7_runNext_11 : decode cX7_runNext 11 = .ok (.invokevirtual 32, 3) := by decide +kernel
theorem dX7_runNext_14 : decode cX7_runNext 14 = .ok (.istore_n 2, 1) := by decide +kernel
theorem dX7_runNext_15 : decode cX7_runNext 15 = .ok (.aload_n 0, 1) := by decide +kernel
theorem dX7_runNext_16 : decode cX7_runNext 16 = .ok (.getfield 12, 3) := by decide +kernel
theorem dX7_runNext_19 : decode cX7_runNext 19 = .ok (.aload_n 1, 1) := by decide +kernel
theorem dX7_runNext_20 : decode cX7_runNext 20 = .ok (.invokevirtual 36, 3) := by decide +kernel
theorem dX7_runNext_23 : decode cX7_runNext 23 = .ok (.istore_n 3, 1) := by decide +kernel
theorem dX7_runNext_24 : decode cX7_runNext 24 = .ok (.iconst 0, 1) := by decide +kernel
theorem dX7_runNext_25 : decode cX7_runNext 25 = .ok (.istore 4, 2) := by decide +kernel
theorem dX7_runNext_27 : decode cX7_runNext 27 = .ok (.iload 4, 2) := by decide +kernel
theorem dX7_runNext_29 : decode cX7_runNext 29 = .ok (.iload_n 3, 1) := by decide +kernel
theorem dX7_runNext_30 : decode cX7_runNext 30 = .ok (.if_icmp .ge 27, 3) := by decide +kernel
theorem dX7_runNext_33 : decode cX7_runNext 33 = .ok (.aload_n 0, 1) := by decide +kernel
theorem dX7_runNext_34 : decode cX7_runNext 34 = .ok (.getfield 12, 3) := by decide +kernel
theorem dX7_runNext_37 : decode cX7_runNext 37 = .ok (.aload_n 1, 1) := by decide +kernel
theorem dX7_runNext_38 : decode cX7_runNext 38 = .ok (.aload_n 0, 1) := by decide +kernel
theorem dX7_runNext_39 : decode cX7_runNext 39 = .ok (.getfield 12, 3) := by decide +kernel
theorem dX7_runNext_42 : decode cX7_runNext 42 = .ok (.getfield 40, 3) := by decide +kernel
theorem dX7_runNext_45 : decode cX7_runNext 45 = .ok (.iload 4, 2) := by decide +kernel
theorem dX7_runNext_47 : decode cX7_runNext 47 = .ok (.iaload, 1) := by decide +kernel
theorem dX7_runNext_48 : decode cX7_runNext 48 = .ok (.invokevirtual 44, 3) := by decide +kernel
theorem dX7_runNext_51 : decode cX7_runNext 51 = .ok (.iinc 4 1, 3) := by decide +kernel
theorem dX7_runNext_54 : decode cX7_runNext 54 = .ok (.goto (-27), 3) := by decide +kernel
theorem dX7_runNext_57 : decode cX7_runNext 57 = .ok (.aload_n 0, 1) := by decide +kernel
theorem dX7_runNext_58 : decode cX7_runNext 58 = .ok (.getfield 21, 3) := by decide +kernel
theorem dX7_runNext_61 : decode cX7_runNext 61 = .ok (.aload_n 1, 1) := by decide +kernel
theorem dX7_runNext_62 : decode cX7_runNext 62 = .ok (.invokevirtual 48, 3) := by decide +kernel
theorem dX7_runNext_65 : decode cX7_runNext 65 = .ok (.aload_n 1, 1) := by decide +kernel
theorem dX7_runNext_66 : decode cX7_runNext 66 = .ok (.invokevirtual 52, 3) := by decide +kernel
theorem dX7_runNext_69 : decode cX7_runNext 69 = .ok (.aload_n 1, 1) := by decide +kernel
theorem dX7_runNext_70 : decode cX7_runNext 70 = .ok (.invokevirtual 55, 3) := by decide +kernel
theorem dX7_runNext_73 : decode cX7_runNext 73 = .ok (.aload_n 1, 1) := by decide +kernel
theorem dX7_runNext_74 : decode cX7_runNext 74 = .ok (.invokevirtual 58, 3) := by decide +kernel
theorem dX7_runNext_77 : decode cX7_runNext 77 = .ok (.aload_n 1, 1) := by decide +kernel
theorem dX7_runNext_78 : decode cX7_runNext 78 = .ok (.getfield 61, 3) := by decide +kernel
theorem dX7_runNext_81 : decode cX7_runNext 81 = .ok (.ifCond .ne 11, 3) := by decide +kernel
theorem dX7_runNext_84 : decode cX7_runNext 84 = .ok (.aload_n 1, 1) := by decide +kernel
theorem dX7_runNext_85 : decode cX7_runNext 85 = .ok (.invokevirtual 64, 3) := by decide +kernel
theorem dX7_runNext_88 : decode cX7_runNext 88 = .ok (.aload_n 1, 1) := by decide +kernel
theorem dX7_runNext_89 : decode cX7_runNext 89 = .ok (.invokevirtual 67, 3) := by decide +kernel
theorem dX7_runNext_92 : decode cX7_runNext 92 = .ok (.aload_n 1, 1) := by decide +kernel
theorem dX7_runNext_93 : decode cX7_runNext 93 = .ok (.invokevirtual 32, 3) := by decide +kernel
theorem dX7_runNext_96 : decode cX7_runNext 96 = .ok (.iload_n 2, 1) := by decide +kernel
theorem dX7_runNext_97 : decode cX7_runNext 97 = .ok (.isub, 1) := by decide +kernel
theorem dX7_runNext_98 : decode cX7_runNext 98 = .ok (.ireturn, 1) := by decide +kernel
theorem dX7_runToRoundEnd_0 : decode cX7_runToRoundEnd 0 = .ok (.aload_n 1, 1) := by decide +kernel
theorem dX7_runToRoundEnd_1 : decode cX7_runToRoundEnd 1 = .ok (.getfield 25, 3) := by decide +kernel
theorem dX7_runToRoundEnd_4 : decode cX7_runToRoundEnd 4 = .ok (.ifCond .ne 6, 3) := by decide +kernel
theorem dX7_runToRoundEnd_7 : decode cX7_runToRoundEnd 7 = .ok (.ldc 31, 2) := by decide +kernel
theorem dX7_runToRoundEnd_9 : decode cX7_runToRoundEnd 9 = .ok (.ireturn, 1) := by decide +kernel
theorem dX7_runToRoundEnd_10 : decode cX7_runToRoundEnd 10 = .ok (.iconst 0, 1) := by decide +kernel
theorem dX7_runToRoundEnd_11 : decode cX7_runToRoundEnd 11 = .ok (.istore_n 2, 1) := by decide +kernel
theorem dX7_runToRoundEnd_12 : decode cX7_runToRoundEnd 12 = .ok (.aload_n 1, 1) := by decide +kernel
theorem dX7_runToRoundEnd_13 : decode cX7_runToRoundEnd 13 = .ok (.getfield 61, 3) := by decide +kernel
theorem dX7_runToRoundEnd_16 : decode cX7_runToRoundEnd 16 = .ok (.istore_n 3, 1) := by decide +kernel
theorem dX7_runToRoundEnd_17 : decode cX7_runToRoundEnd 17 = .ok (.iload_n 3, 1) := by decide +kernel
theorem dX7_runToRoundEnd_18 : decode cX7_runToRoundEnd 18 = .ok (.iconst 5, 1) := by decide +kernel
theorem dX7_runToRoundEnd_19 : decode cX7_runToRoundEnd 19 = .ok (.if_icmp .ge 17, 3) := by decide +kernel
theorem dX7_runToRoundEnd_22 : decode cX7_runToRoundEnd 22 = .ok (.iload_n 2, 1) := by decide +kernel
theorem dX7_runToRoundEnd_23 : decode cX7_runToRoundEnd 23 = .ok (.aload_n 0, 1) := by decide +kernel
theorem dX7_runToRoundEnd_24 : decode cX7_runToRoundEnd 24 = .ok (.aload_n 1, 1) := by decide +kernel
theorem dX7_runToRoundEnd_25 : decode cX7_runToRoundEnd 25 = .ok (.invokevirtual 70, 3) := by decide +kernel
theorem dX7_runToRoundEnd_28 : decode cX7_runToRoundEnd 28 = .ok (.iadd, 1) := by decide +kernel
theorem dX7_runToRoundEnd_29 : decode cX7_runToRoundEnd 29 = .ok (.istore_n 2, 1) := by decide +kernel
theorem dX7_runToRoundEnd_30 : decode cX7_runToRoundEnd 30 = .ok (.iinc 3 1, 3) := by decide +kernel
theorem dX7_runToRoundEnd_33 : decode cX7_runToRoundEnd 33 = .ok (.goto (-16), 3) := by decide +kernel
theorem dX7_runToRoundEnd_36 : decode cX7_runToRoundEnd 36 = .ok (.iload_n 2, 1) := by decide +kernel
theorem dX7_runToRoundEnd_37 : decode cX7_runToRoundEnd 37 = .ok (.ireturn, 1) := by decide +kernel
theorem dX8_init_0 : decode cX8_init 0 = .ok (.aload_n 0, 1) := by decide +kernel
theorem dX8_init_1 : decode cX8_init 1 = .ok (.invokespecial 3, 3) := by decide +kernel
theorem dX8_init_4 : decode cX8_init 4 = .ok (.aload_n 0, 1) := by decide +kernel
theorem dX8_init_5 : decode cX8_init 5 = .ok (.new 9, 3) := by decide +kernel
theorem dX8_init_8 : decode cX8_init 8 = .ok (.dup, 1) := by decide +kernel
theorem dX8_init_9 : decode cX8_init 9 = .ok (.invokespecial 11, 3) := by decide +kernel
theorem dX8_init_12 : decode cX8_init 12 = .ok (.putfield 12, 3) := by decide +kernel
theorem dX8_init_15 : decode cX8_init 15 = .ok (.aload_n 0, 1) := by decide +kernel
theorem dX8_init_16 : decode cX8_init 16 = .ok (.iconst 4, 1) := by decide +kernel
theorem dX8_init_17 : decode cX8_init 17 = .ok (.anewarray 18, 3) := by decide +kernel
theorem dX8_init_20 : decode cX8_init 20 = .ok (.dup, 1) := by decide +kernel
theorem dX8_init_21 : decode cX8_init 21 = .ok (.iconst 0, 1) := by decide +kernel
theorem dX8_init_22 : decode cX8_init 22 = .ok (.new 18, 3) := by decide +kernel
theorem dX8_init_25 : decode cX8_init 25 = .ok (.dup, 1) := by decide +kernel
theorem dX8_init_26 : decode cX8_init 26 = .ok (.invokespecial 20, 3) := by decide +kernel
theorem dX8_init_29 : decode cX8_init 29 = .ok (.aastore, 1) := by decide +kernel
theorem dX8_init_30 : decode cX8_init 30 = .ok (.dup, 1) := by decide +kernel
theorem dX8_init_31 : decode cX8_init 31 = .ok (.iconst 1, 1) := by decide +kernel
theorem dX8_init_32 : decode cX8_init 32 = .ok (.new 18, 3) := by decide +kernel
theorem dX8_init_35 : decode cX8_init 35 = .ok (.dup, 1) := by decide +kernel
theorem dX8_init_36 : decode cX8_init 36 = .ok (.invokespecial 20, 3) := by decide +kernel
theorem dX8_init_39 : decode cX8_init 39 = .ok (.aastore, 1) := by decide +kernel
theorem dX8_init_40 : decode cX8_init 40 = .ok (.dup, 1) := by decide +kernel
theorem dX8_init_41 : decode cX8_init 41 = .ok (.iconst 2, 1) := by decide +kernel
theorem dX8_init_42 : decode cX8_init 42 = .ok (.new 18, 3) := by decide +kernel
theorem dX8_init_45 : decode cX8_init 45 = .ok (.dup, 1) := by decide +kernel
theorem dX8_init_46 : decode cX8_init 46 = .ok (.invokespecial 20, 3) := by decide +kernel
theorem dX8_init_49 : decode cX8_init 49 = .ok (.aastore, 1) := by decide +kernel
theorem dX8_init_50 : decode cX8_init 50 = .ok (.dup, 1) := by decide +kernel
theorem dX8_init_51 : decode cX8_init 51 = .ok (.iconst 3, 1) := by decide +kernel
theorem dX8_init_52 : decode cX8_init 52 = .ok (.new 18, 3) := by decide +kernel
theorem dX8_init_55 : decode cX8_init 55 = .ok (.dup, 1) := by decide +kernel
theorem dX8_init_56 : decode cX8_init 56 = .ok (.invokespecial 20, 3) := by decide +kernel
theorem dX8_init_59 : decode cX8_init 59 = .ok (.aastore, 1) := by decide +kernel
theorem dX8_init_60 : decode cX8_init 60 = .ok (.putfield 21, 3) := by decide +kernel
theorem dX8_init_63 : decode cX8_init 63 = .ok (.aload_n 0, 1) := by decide +kernel
theorem dX8_init_64 : decode cX8_init 64 = .ok (.iconst (-1), 1) := by decide +kernel
theorem dX8_init_65 : decode cX8_init 65 = .ok (.putfield 25, 3) := by decide +kernel
theorem dX8_init_68 : decode cX8_init 68 = .ok (.return_, 1) := by decide +kernel
theorem dX8_copyFrom_0 : decode cX8_copyFrom 0 = .ok (.aload_n 0, 1) := by decide +kernel
theorem dX8_copyFrom_1 : decode cX8_copyFrom 1 = .ok (.getfield 12, 3) := by decide +kernel
theorem dX8_copyFrom_4 : decode cX8_copyFrom 4 = .ok (.aload_n 1, 1) := by decide +kernel
theorem dX8_copyFrom_5 : decode cX8_copyFrom 5 = .ok (.getfield 12, 3) := by decide +kernel
theorem dX8_copyFrom_8 : decode cX8_copyFrom 8 = .ok (.invokevirtual 29, 3) := by decide +kernel
theorem dX8_copyFrom_11 : decode cX8_copyFrom 11 = .ok (.iconst 0, 1) := by decide +kernel
theorem dX8_copyFrom_12 : decode cX8_copyFrom 12 = .ok (.istore_n 2, 1) := by decide +kernel
theorem dX8_copyFrom_13 : decode cX8_copyFrom 13 = .ok (.iload_n 2, 1) := by decide +kernel
theorem dX8_copyFrom_14 : decode cX8_copyFrom 14 = .ok (.iconst 4, 1) := by decide +kernel
theorem dX8_copyFrom_15 : decode cX8_copyFrom 15 = .ok (.if_icmp .ge 24, 3) := by decide +kernel
theorem dX8_copyFrom_18 : decode cX8_copyFrom 18 = .ok (.aload_n 0, 1) := by decide +kernel
theorem dX8_copyFrom_19 : decode cX8_copyFrom 19 = .ok (.getfield 21, 3) := by decide +kernel
theorem dX8_copyFrom_22 : decode cX8_copyFrom 22 = .ok (.iload_n 2, 1) := by decide +kernel
theorem dX8_copyFrom_23 : decode cX8_copyFrom 23 = .ok (.aaload, 1) := by decide +kernel
theorem dX8_copyFrom_24 : decode cX8_copyFrom 24 = .ok (.aload_n 1, 1) := by decide +kernel
theorem dX8_copyFrom_25 : decode cX8_copyFrom 25 = .ok (.getfield 21, 3) := by decide +kernel
theorem dX8_copyFrom_28 : decode cX8_copyFrom 28 = .ok (.iload_n 2, 1) := by decide +kernel
theorem dX8_copyFrom_29 : decode cX8_copyFrom 29 = .ok (.aaload, 1) := by decide +kernel
theorem dX8_copyFrom_30 : decode cX8_copyFrom 30 = .ok (.invokevirtual 33, 3) := by decide +kernel
theorem dX8_copyFrom_33 : decode cX8_copyFrom 33 = .ok (.iinc 2 1, 3) := by decide +kernel
theorem dX8_copyFrom_36 : decode cX8_copyFrom 36 = .ok (.goto (-23), 3) := by decide +kernel
theorem dX8_copyFrom_39 : decode cX8_copyFrom 39 = .ok (.aload_n 0, 1) := by decide +kernel
theorem dX8_copyFrom_40 : decode cX8_copyFrom 40 = .ok (.aload_n 1, 1) := by decide +kernel
theorem dX8_copyFrom_41 : decode cX8_copyFrom 41 = .ok (.getfield 36, 3) := by decide +kernel
theorem dX8_copyFrom_44 : decode cX8_copyFrom 44 = .ok (.putfield 36, 3) := by decide +kernel
theorem dX8_copyFrom_47 : decode cX8_copyFrom 47 = .ok (.aload_n 0, 1) := by decide +kernel
theorem dX8_copyFrom_48 : decode cX8_copyFrom 48 = .ok (.aload_n 1, 1) := by decide +kernel
theorem dX8_copyFrom_49 : decode cX8_copyFrom 49 = .ok (.getfield 39, 3) := by decide +kernel
theorem dX8_copyFrom_52 : decode cX8_copyFrom 52 = .ok (.putfield 39, 3) := by decide +kernel
theorem dX8_copyFrom_55 : decode cX8_copyFrom 55 = .ok (.aload_n 0, 1) := by decide +kernel
theorem dX8_copyFrom_56 : decode cX8_copyFrom 56 = .ok (.aload_n 1, 1) := by decide +kernel
theorem dX8_copyFrom_57 : decode cX8_copyFrom 57 = .ok (.getfield 42, 3) := by decide +kernel
theorem dX8_copyFrom_60 : decode cX8_copyFrom 60 = .ok (.putfield 42, 3) := by decide +kernel
theorem dX8_copyFrom_63 : decode cX8_copyFrom 63 = .ok (.aload_n 0, 1) := by decide +kernel
theorem dX8_copyFrom_64 : decode cX8_copyFrom 64 = .ok (.aload_n 1, 1) := by decide +kernel
theorem dX8_copyFrom_65 : decode cX8_copyFrom 65 = .ok (.getfield 45, 3) := by decide +kernel
theorem dX8_copyFrom_68 : decode cX8_copyFrom 68 = .ok (.putfield 45, 3) := by decide +kernel
theorem dX8_copyFrom_71 : decode cX8_copyFrom 71 = .ok (.aload_n 0, 1) := by decide +kernel
theorem dX8_copyFrom_72 : decode cX8_copyFrom 72 = .ok (.aload_n 1, 1) := by decide +kernel
theorem dX8_copyFrom_73 : decode cX8_copyFrom 73 = .ok (.getfield 48, 3) := by decide +kernel
theorem dX8_copyFrom_76 : decode cX8_copyFrom 76 = .ok (.putfield 48, 3) := by decide +kernel
theorem dX8_copyFrom_79 : decode cX8_copyFrom 79 = .ok (.aload_n 0, 1) := by decide +kernel
theorem dX8_copyFrom_80 : decode cX8_copyFrom 80 = .ok (.aload_n 1, 1) := by decide +kernel
theorem dX8_copyFrom_81 : decode cX8_copyFrom 81 = .ok (.getfield 25, 3) := by decide +kernel
theorem dX8_copyFrom_84 : decode cX8_copyFrom 84 = .ok (.putfield 25, 3) := by decide +kernel
theorem dX8_copyFrom_87 : decode cX8_copyFrom 87 = .ok (.return_, 1) := by decide +kernel
theorem dX8_hasCart_0 : decode cX8_hasCart 0 = .ok (.iload_n 1, 1) := by decide +kernel
theorem dX8_hasCart_1 : decode cX8_hasCart 1 = .ok (.ifCond .lt 15, 3) := by decide +kernel
theorem dX8_hasCart_4 : decode cX8_hasCart 4 = .ok (.iload_n 1, 1) := by decide +kernel
theorem dX8_hasCart_5 : decode cX8_hasCart 5 = .ok (.aload_n 0, 1) := by decide +kernel
theorem dX8_hasCart_6 : decode cX8_hasCart 6 = .ok (.getfield 36, 3) := by decide +kernel
theorem dX8_hasCart_9 : decode cX8_hasCart 9 = .ok (.if_icmp .ge 7, 3) := by decide +kernel
theorem dX8_hasCart_12 : decode cX8_hasCart 12 = .ok (.iconst 1, 1) := by decide +kernel
theorem dX8_hasCart_13 : decode cX8_hasCart 13 = .ok (.goto 4, 3) := by decide +kernel
theorem dX8_hasCart_16 : decode cX8_hasCart 16 = .ok (.iconst 0, 1) := by decide +kernel
theorem dX8_hasCart_17 : decode cX8_hasCart 17 = .ok (.ireturn, 1) := by decide +kernel
theorem dX8_cartOn_0 : decode cX8_cartOn 0 = .ok (.iconst 0, 1) := by decide +kernel
theorem dX8_cartOn_1 : decode cX8_cartOn 1 = .ok (.istore_n 2, 1) := by decide +kernel
theorem dX8_cartOn_2 : decode cX8_cartOn 2 = .ok (.iload_n 2, 1) := by decide +kernel
theorem dX8_cartOn_3 : decode cX8_cartOn 3 = .ok (.aload_n 0, 1) := by decide +kernel
theorem dX8_cartOn_4 : decode cX8_cartOn 4 = .ok (.getfield 36, 3) := by decide +kernel
theorem dX8_cartOn_7 : decode cX8_cartOn 7 = .ok (.if_icmp .ge 29, 3) := by decide +kernel
theorem dX8_cartOn_10 : decode cX8_cartOn 10 = .ok (.aload_n 0, 1) := by decide +kernel
theorem dX8_cartOn_11 : decode cX8_cartOn 11 = .ok (.getfield 21, 3) := by decide +kernel
theorem dX8_cartOn_14 : decode cX8_cartOn 14 = .ok (.iload_n 2, 1) := by decide +kernel
theorem dX8_cartOn_15 : decode cX8_cartOn 15 = .ok (.aaload, 1) := by decide +kernel
theorem dX8_cartOn_16 : decode cX8_cartOn 16 = .ok (.getfield 51, 3) := by decide +kernel
theorem dX8_cartOn_19 : decode cX8_cartOn 19 = .ok (.iload_n 1, 1) := by decide +kernel
theorem dX8_cartOn_20 : decode cX8_cartOn 20 = .ok (.if_icmp .ne 10, 3) := by decide +kernel
theorem dX8_cartOn_23 : decode cX8_cartOn 23 = .ok (.iload_n 1, 1) := by decide +kernel
theorem dX8_cartOn_24 : decode cX8_cartOn 24 = .ok (.iconst (-1), 1) := by decide +kernel
theorem dX8_cartOn_25 : decode cX8_cartOn 25 = .ok (.if_icmp .eq 5, 3) := by decide +kernel
theorem dX8_cartOn_28 : decode cX8_cartOn 28 = .ok (.iload_n 2, 1) := by decide +kernel
theorem dX8_cartOn_29 : decode cX8_cartOn 29 = .ok (.ireturn, 1) := by decide +kernel
theorem dX8_cartOn_30 : decode cX8_cartOn 30 = .ok (.iinc 2 1, 3) := by decide +kernel
theorem dX8_cartOn_33 : decode cX8_cartOn 33 = .ok (.goto (-31), 3) := by decide +kernel
theorem dX8_cartOn_36 : decode cX8_cartOn 36 = .ok (.iconst (-1), 1) := by decide +kernel
theorem dX8_cartOn_37 : decode cX8_cartOn 37 = .ok (.ireturn, 1) := by decide +kernel
theorem dX8_cartsOut_0 : decode cX8_cartsOut 0 = .ok (.iconst 0, 1) := by decide +kernel
theorem dX8_cartsOut_1 : decode cX8_cartsOut 1 = .ok (.istore_n 1, 1) := by decide +kernel
theorem dX8_cartsOut_2 : decode cX8_cartsOut 2 = .ok (.iconst 0, 1) := by decide +kernel
theorem dX8_cartsOut_3 : decode cX8_cartsOut 3 = .ok (.istore_n 2, 1) := by decide +kernel
theorem dX8_cartsOut_4 : decode cX8_cartsOut 4 = .ok (.iload_n 2, 1) := by decide +kernel
theorem dX8_cartsOut_5 : decode cX8_cartsOut 5 = .ok (.aload_n 0, 1) := by decide +kernel
theorem dX8_cartsOut_6 : decode cX8_cartsOut 6 = .ok (.getfield 36, 3) := by decide +kernel
theorem dX8_cartsOut_9 : decode cX8_cartsOut 9 = .ok (.if_icmp .ge 24, 3) := by decide +kernel
theorem dX8_cartsOut_12 : decode cX8_cartsOut 12 = .ok (.aload_n 0, 1) := by decide +kernel
theorem dX8_cartsOut_13 : decode cX8_cartsOut 13 = .ok (.getfield 21, 3) := by decide +kernel
theorem dX8_cartsOut_16 : decode cX8_cartsOut 16 = .ok (.iload_n 2, 1) := by decide +kernel
theorem dX8_cartsOut_17 : decode cX8_cartsOut 17 = .ok (.aaload, 1) := by decide +kernel
theorem dX8_cartsOut_18 : decode cX8_cartsOut 18 = .ok (.invokevirtual 54, 3) := by decide +kernel
theorem dX8_cartsOut_21 : decode cX8_cartsOut 21 = .ok (.ifCond .eq 6, 3) := by decide +kernel
theorem dX8_cartsOut_24 : decode cX8_cartsOut 24 = .ok (.iinc 1 1, 3) := by decide +kernel
theorem dX8_cartsOut_27 : decode cX8_cartsOut 27 = .ok (.iinc 2 1, 3) := by decide +kernel
theorem dX8_cartsOut_30 : decode cX8_cartsOut 30 = .ok (.goto (-26), 3) := by decide +kernel
theorem dX8_cartsOut_33 : decode cX8_cartsOut 33 = .ok (.iload_n 1, 1) := by decide +kernel
theorem dX8_cartsOut_34 : decode cX8_cartsOut 34 = .ok (.ireturn, 1) := by decide +kernel
theorem dX8_timesOut_0 : decode cX8_timesOut 0 = .ok (.iconst 0, 1) := by decide +kernel
theorem dX8_timesOut_1 : decode cX8_timesOut 1 = .ok (.istore_n 1, 1) := by decide +kernel
theorem dX8_timesOut_2 : decode cX8_timesOut 2 = .ok (.iconst 0, 1) := by decide +kernel
theorem dX8_timesOut_3 : decode cX8_timesOut 3 = .ok (.istore_n 2, 1) := by decide +kernel
theorem dX8_timesOut_4 : decode cX8_timesOut 4 = .ok (.iload_n 2, 1) := by decide +kernel
theorem dX8_timesOut_5 : decode cX8_timesOut 5 = .ok (.aload_n 0, 1) := by decide +kernel
theorem dX8_timesOut_6 : decode cX8_timesOut 6 = .ok (.getfield 36, 3) := by decide +kernel
theorem dX8_timesOut_9 : decode cX8_timesOut 9 = .ok (.if_icmp .ge 21, 3) := by decide +kernel
theorem dX8_timesOut_12 : decode cX8_timesOut 12 = .ok (.iload_n 1, 1) := by decide +kernel
theorem dX8_timesOut_13 : decode cX8_timesOut 13 = .ok (.aload_n 0, 1) := by decide +kernel
theorem dX8_timesOut_14 : decode cX8_timesOut 14 = .ok (.getfield 21, 3) := by decide +kernel
theorem dX8_timesOut_17 : decode cX8_timesOut 17 = .ok (.iload_n 2, 1) := by decide +kernel
theorem dX8_timesOut_18 : decode cX8_timesOut 18 = .ok (.aaload, 1) := by decide +kernel
theorem dX8_timesOut_19 : decode cX8_timesOut 19 = .ok (.getfield 58, 3) := by decide +kernel
theorem dX8_timesOut_22 : decode cX8_timesOut 22 = .ok (.iadd, 1) := by decide +kernel
theorem dX8_timesOut_23 : decode cX8_timesOut 23 = .ok (.istore_n 1, 1) := by decide +kernel
theorem dX8_timesOut_24 : decode cX8_timesOut 24 = .ok (.iinc 2 1, 3) := by decide +kernel
theorem dX8_timesOut_27 : decode cX8_timesOut 27 = .ok (.goto (-23), 3) := by decide +kernel
theorem dX8_timesOut_30 : decode cX8_timesOut 30 = .ok (.iload_n 1, 1) := by decide +kernel
theorem dX8_timesOut_31 : decode cX8_timesOut 31 = .ok (.ireturn, 1) := by decide +kernel
theorem dX8_cellValue_0 : decode cX8_cellValue 0 = .ok (.iload_n 2, 1) := by decide +kernel
theorem dX8_cellValue_1 : decode cX8_cellValue 1 = .ok (.tableswitch 65 0 2 #[27, 36, 45], 27) := by decide +kernel
theorem dX8_cellValue_28 : decode cX8_cellValue 28 = .ok (.aload_n 0, 1) := by decide +kernel
theorem dX8_cellValue_29 : decode cX8_cellValue 29 = .ok (.getfield 12, 3) := by decide +kernel
theorem dX8_cellValue_32 : decode cX8_cellValue 32 = .ok (.iload_n 1, 1) := by decide +kernel
theorem dX8_cellValue_33 : decode cX8_cellValue 33 = .ok (.invokevirtual 61, 3) := by decide +kernel
theorem dX8_cellValue_36 : decode cX8_cellValue 36 = .ok (.ireturn, 1) := by decide +kernel
theorem dX8_cellValue_37 : decode cX8_cellValue 37 = .ok (.aload_n 0, 1) := by decide +kernel
theorem dX8_cellValue_38 : decode cX8_cellValue 38 = .ok (.getfield 12, 3) := by decide +kernel
theorem dX8_cellValue_41 : decode cX8_cellValue 41 = .ok (.iload_n 1, 1) := by decide +kernel
theorem dX8_cellValue_42 : decode cX8_cellValue 42 = .ok (.invokevirtual 65, 3) := by decide +kernel
theorem dX8_cellValue_45 : decode cX8_cellValue 45 = .ok (.ireturn, 1) := by decide +kernel
theorem dX8_cellValue_46 : decode cX8_cellValue 46 = .ok (.aload_n 0, 1) := by decide +kernel
theorem dX8_cellValue_47 : decode cX8_cellValue 47 = .ok (.iload_n 1, 1) := by decide +kernel
theorem dX8_cellValue_48 : decode cX8_cellValue 48 = .ok (.invokevirtual 68, 3) := by decide +kernel
theorem dX8_cellValue_51 : decode cX8_cellValue 51 = .ok (.iconst (-1), 1) := by decide +kernel
theorem dX8_cellValue_52 : decode cX8_cellValue 52 = .ok (.if_icmp .ne 8, 3) := by decide +kernel
theorem dX8_cellValue_55 : decode cX8_cellValue 55 = .ok (.ldc 71, 2) := by decide +kernel
theorem dX8_cellValue_57 : decode cX8_cellValue 57 = .ok (.goto 8, 3) := by decide +kernel
theorem dX8_cellValue_60 : decode cX8_cellValue 60 = .ok (.aload_n 0, 1) := by decide +kernel
theorem dX8_cellValue_61 : decode cX8_cellValue 61 = .ok (.iload_n 1, 1) := by decide +kernel
theorem dX8_cellValue_62 : decode cX8_cellValue 62 = .ok (.invokevirtual 68, 3) := by decide +kernel
theorem dX8_cellValue_65 : decode cX8_cellValue 65 = .ok (.ireturn, 1) := by decide +kernel
theorem dX8_cellValue_66 : decode cX8_cellValue 66 = .ok (.aload_n 0, 1) := by decide +kernel
theorem dX8_cellValue_67 : decode cX8_cellValue 67 = .ok (.getfield 12, 3) := by decide +kernel
theorem dX8_cellValue_70 : decode cX8_cellValue 70 = .ok (.iload_n 1, 1) := by decide +kernel
theorem dX8_cellValue_71 : decode cX8_cellValue 71 = .ok (.invokevirtual 72, 3) := by decide +kernel
theorem dX8_cellValue_74 : decode cX8_cellValue 74 = .ok (.ireturn, 1) := by decide +kernel
theorem dX8_setKind_0 : decode cX8_setKind 0 = .ok (.iload_n 1, 1) := by decide +kernel
theorem dX8_setKind_1 : decode cX8_setKind 1 = .ok (.invokestatic 75, 3) := by decide +kernel
theorem dX8_setKind_4 : decode cX8_setKind 4 = .ok (.ifCond .eq 13, 3) := by decide +kernel
theorem dX8_setKind_7 : decode cX8_setKind 7 = .ok (.iload_n 2, 1) := by decide +kernel
theorem dX8_setKind_8 : decode cX8_setKind 8 = .ok (.iconst 0, 1) := by decide +kernel
theorem dX8_setKind_9 : decode cX8_setKind 9 = .ok (.bipush 8, 2) := by decide +kernel
theorem dX8_setKind_11 : decode cX8_setKind 11 = .ok (.invokestatic 79, 3) := by decide +kernel
theorem dX8_setKind_14 : decode cX8_setKind 14 = .ok (.ifCond .ne 6, 3) := by decide +kernel
theorem dX8_setKind_17 : decode cX8_setKind 17 = .ok (.ldc 83, 2) := by decide +kernel
theorem dX8_setKind_19 : decode cX8_setKind 19 = .ok (.ireturn, 1) := by decide +kernel
theorem dX8_setKind_20 : decode cX8_setKind 20 = .ok (.iload_n 2, 1) := by decide +kernel
theorem dX8_setKind_21 : decode cX8_setKind 21 = .ok (.bipush 7, 2) := by decide +kernel
theorem dX8_setKind_23 : decode cX8_setKind 23 = .ok (.if_icmp .ne 15, 3) := by decide +kernel
theorem dX8_setKind_26 : decode cX8_setKind 26 = .ok (.aload_n 0, 1) := by decide +kernel
theorem dX8_setKind_27 : decode cX8_setKind 27 = .ok (.iload_n 1, 1) := by decide +kernel
theorem dX8_setKind_28 : decode cX8_setKind 28 = .ok (.invokevirtual 68, 3) := by decide +kernel
theorem dX8_setKind_31 : decode cX8_setKind 31 = .ok (.iconst (-1), 1) := by decide +kernel
theorem dX8_setKind_32 : decode cX8_setKind 32 = .ok (.if_icmp .eq 6, 3) := by decide +kernel
theorem dX8_setKind_35 : decode cX8_setKind 35 = .ok (.ldc 84, 2) := by decide +kernel
theorem dX8_setKind_37 : decode cX8_setKind 37 = .ok (.ireturn, 1) := by decide +kernel
theorem dX8_setKind_38 : decode cX8_setKind 38 = .ok (.aload_n 0, 1) := by decide +kernel
theorem dX8_setKind_39 : decode cX8_setKind 39 = .ok (.getfield 12, 3) := by decide +kernel
theorem dX8_setKind_42 : decode cX8_setKind 42 = .ok (.getfield 85, 3) := by decide +kernel
theorem dX8_setKind_45 : decode cX8_setKind 45 = .ok (.iload_n 1, 1) := by decide +kernel
theorem dX8_setKind_46 : decode cX8_setKind 46 = .ok (.iaload, 1) := by decide +kernel
theorem dX8_setKind_47 : decode cX8_setKind 47 = .ok (.istore_n 3, 1) := by decide +kernel
theorem dX8_setKind_48 : decode cX8_setKind 48 = .ok (.aload_n 0, 1) := by decide +kernel
theorem dX8_setKind_49 : decode cX8_setKind 49 = .ok (.getfield 12, 3) := by decide +kernel
theorem dX8_setKind_52 : decode cX8_setKind 52 = .ok (.getfield 85, 3) := by decide +kernel
theorem dX8_setKind_55 : decode cX8_setKind 55 = .ok (.iload_n 1, 1) := by decide +kernel
theorem dX8_setKind_56 : decode cX8_setKind 56 = .ok (.iload_n 2, 1) := by decide +kernel
theorem dX8_setKind_57 : decode cX8_setKind 57 = .ok (.iastore, 1) := by decide +kernel
theorem dX8_setKind_58 : decode cX8_setKind 58 = .ok (.iload_n 3, 1) := by decide +kernel
theorem dX8_setKind_59 : decode cX8_setKind 59 = .ok (.ireturn, 1) := by decide +kernel
theorem dX8_flipWall_0 : decode cX8_flipWall 0 = .ok (.iload_n 1, 1) := by decide +kernel
theorem dX8_flipWall_1 : decode cX8_flipWall 1 = .ok (.invokestatic 75, 3) := by decide +kernel
theorem dX8_flipWall_4 : decode cX8_flipWall 4 = .ok (.ifCond .eq 10, 3) := by decide +kernel
theorem dX8_flipWall_7 : decode cX8_flipWall 7 = .ok (.iload_n 2, 1) := by decide +kernel
theorem dX8_flipWall_8 : decode cX8_flipWall 8 = .ok (.invokestatic 89, 3) := by decide +kernel
theorem dX8_flipWall_11 : decode cX8_flipWall 11 = .ok (.ifCond .ne 6, 3) := by decide +kernel
theorem dX8_flipWall_14 : decode cX8_flipWall 14 = .ok (.ldc 83, 2) := by decide +kernel
theorem dX8_flipWall_16 : decode cX8_flipWall 16 = .ok (.ireturn, 1) := by decide +kernel
theorem dX8_flipWall_17 : decode cX8_flipWall 17 = .ok (.aload_n 0, 1) := by decide +kernel
theorem dX8_flipWall_18 : decode cX8_flipWall 18 = .ok (.getfield 12, 3) := by decide +kernel
theorem dX8_flipWall_21 : decode cX8_flipWall 21 = .ok (.iload_n 1, 1) := by decide +kernel
theorem dX8_flipWall_22 : decode cX8_flipWall 22 = .ok (.iload_n 2, 1) := by decide +kernel
theorem dX8_flipWall_23 : decode cX8_flipWall 23 = .ok (.invokevirtual 92, 3) := by decide +kernel
theorem dX8_flipWall_26 : decode cX8_flipWall 26 = .ok (.aload_n 0, 1) := by decide +kernel
theorem dX8_flipWall_27 : decode cX8_flipWall 27 = .ok (.getfield 12, 3) := by decide +kernel
theorem dX8_flipWall_30 : decode cX8_flipWall 30 = .ok (.iload_n 1, 1) := by decide +kernel
theorem dX8_flipWall_31 : decode cX8_flipWall 31 = .ok (.iload_n 2, 1) := by decide +kernel
theorem dX8_flipWall_32 : decode cX8_flipWall 32 = .ok (.invokevirtual 96, 3) := by decide +kernel
theorem dX8_flipWall_35 : decode cX8_flipWall 35 = .ok (.ifCond .eq 7, 3) := by decide +kernel
theorem dX8_flipWall_38 : decode cX8_flipWall 38 = .ok (.iconst 1, 1) := by decide +kernel
theorem dX8_flipWall_39 : decode cX8_flipWall 39 = .ok (.goto 4, 3) := by decide +kernel
theorem dX8_flipWall_42 : decode cX8_flipWall 42 = .ok (.iconst 0, 1) := by decide +kernel
theorem dX8_flipWall_43 : decode cX8_flipWall 43 = .ok (.ireturn, 1) := by decide +kernel
theorem dX8_layFlag_0 : decode cX8_layFlag 0 = .ok (.iload_n 1, 1) := by decide +kernel
theorem dX8_layFlag_1 : decode cX8_layFlag 1 = .ok (.iconst 0, 1) := by decide +kernel
theorem dX8_layFlag_2 : decode cX8_layFlag 2 = .ok (.iconst 3, 1) := by decide +kernel
theorem dX8_layFlag_3 : decode cX8_layFlag 3 = .ok (.invokestatic 79, 3) := by decide +kernel
theorem dX8_layFlag_6 : decode cX8_layFlag 6 = .ok (.ifCond .eq 10, 3) := by decide +kernel
theorem dX8_layFlag_9 : decode cX8_layFlag 9 = .ok (.iload_n 2, 1) := by decide +kernel
theorem dX8_layFlag_10 : decode cX8_layFlag 10 = .ok (.invokestatic 75, 3) := by decide +kernel
theorem dX8_layFlag_13 : decode cX8_layFlag 13 = .ok (.ifCond .ne 6, 3) := by decide +kernel
theorem dX8_layFlag_16 : decode cX8_layFlag 16 = .ok (.ldc 83, 2) := by decide +kernel
theorem dX8_layFlag_18 : decode cX8_layFlag 18 = .ok (.ireturn, 1) := by decide +kernel
theorem dX8_layFlag_19 : decode cX8_layFlag 19 = .ok (.iload_n 1, 1) := by decide +kernel
theorem dX8_layFlag_20 : decode cX8_layFlag 20 = .ok (.aload_n 0, 1) := by decide +kernel
theorem dX8_layFlag_21 : decode cX8_layFlag 21 = .ok (.getfield 12, 3) := by decide +kernel
theorem dX8_layFlag_24 : decode cX8_layFlag 24 = .ok (.getfield 100, 3) := by decide +kernel
theorem dX8_layFlag_27 : decode cX8_layFlag 27 = .ok (.if_icmp .le 6, 3) := by decide +kernel
theorem dX8_layFlag_30 : decode cX8_layFlag 30 = .ok (.ldc 84, 2) := by decide +kernel
theorem dX8_layFlag_32 : decode cX8_layFlag 32 = .ok (.ireturn, 1) := by decide +kernel
theorem dX8_layFlag_33 : decode cX8_layFlag 33 = .ok (.aload_n 0, 1) := by decide +kernel
theorem dX8_layFlag_34 : decode cX8_layFlag 34 = .ok (.getfield 12, 3) := by decide +kernel
theorem dX8_layFlag_37 : decode cX8_layFlag 37 = .ok (.getfield 103, 3) := by decide +kernel
theorem dX8_layFlag_40 : decode cX8_layFlag 40 = .ok (.iload_n 1, 1) := by decide +kernel
theorem dX8_layFlag_41 : decode cX8_layFlag 41 = .ok (.iload_n 2, 1) := by decide +kernel
theorem dX8_layFlag_42 : decode cX8_layFlag 42 = .ok (.iastore, 1) := by decide +kernel
theorem dX8_layFlag_43 : decode cX8_layFlag 43 = .ok (.aload_n 0, 1) := by decide +kernel
theorem dX8_layFlag_44 : decode cX8_layFlag 44 = .ok (.getfield 12, 3) := by decide +kernel
theorem dX8_layFlag_47 : decode cX8_layFlag 47 = .ok (.aload_n 0, 1) := by decide +kernel
theorem dX8_layFlag_48 : decode cX8_layFlag 48 = .ok (.getfield 12, 3) := by decide +kernel
theorem dX8_layFlag_51 : decode cX8_layFlag 51 = .ok (.getfield 100, 3) := by decide +kernel
theorem dX8_layFlag_54 : decode cX8_layFlag 54 = .ok (.iload_n 1, 1) := by decide +kernel
theorem dX8_layFlag_55 : decode cX8_layFlag 55 = .ok (.iconst 1, 1) := by decide +kernel
theorem dX8_layFlag_56 : decode cX8_layFlag 56 = .ok (.iadd, 1) := by decide +kernel
theorem dX8_layFlag_57 : decode cX8_layFlag 57 = .ok (.invokestatic 106, 3) := by decide +kernel
theorem dX8_layFlag_60 : decode cX8_layFlag 60 = .ok (.putfield 100, 3) := by decide +kernel
theorem dX8_layFlag_63 : decode cX8_layFlag 63 = .ok (.aload_n 0, 1) := by decide +kernel
theorem dX8_layFlag_64 : decode cX8_layFlag 64 = .ok (.getfield 12, 3) := by decide +kernel
theorem dX8_layFlag_67 : decode cX8_layFlag 67 = .ok (.getfield 100, 3) := by decide +kernel
theorem dX8_layFlag_70 : decode cX8_layFlag 70 = .ok (.ireturn, 1) := by decide +kernel
theorem dX8_addCart_0 : decode cX8_addCart 0 = .ok (.iload_n 1, 1) := by decide +kernel
theorem dX8_addCart_1 : decode cX8_addCart 1 = .ok (.invokestatic 75, 3) := by decide +kernel
theorem dX8_addCart_4 : decode cX8_addCart 4 = .ok (.ifCond .eq 10, 3) := by decide +kernel
theorem dX8_addCart_7 : decode cX8_addCart 7 = .ok (.iload_n 2, 1) := by decide +kernel
theorem dX8_addCart_8 : decode cX8_addCart 8 = .ok (.invokestatic 89, 3) := by decide +kernel
theorem dX8_addCart_11 : decode cX8_addCart 11 = .ok (.ifCond .ne 6, 3) := by decide +kernel
theorem dX8_addCart_14 : decode cX8_addCart 14 = .ok (.ldc 83, 2) := by decide +kernel
theorem dX8_addCart_16 : decode cX8_addCart 16 = .ok (.ireturn, 1) := by decide +kernel
theorem dX8_addCart_17 : decode cX8_addCart 17 = .ok (.aload_n 0, 1) := by decide +kernel
theorem dX8_addCart_18 : decode cX8_addCart 18 = .ok (.iload_n 1, 1) := by decide +kernel
theorem dX8_addCart_19 : decode cX8_addCart 19 = .ok (.invokevirtual 68, 3) := by decide +kernel
theorem dX8_addCart_22 : decode cX8_addCart 22 = .ok (.iconst (-1), 1) := by decide +kernel
theorem dX8_addCart_23 : decode cX8_addCart 23 = .ok (.if_icmp .ne 14, 3) := by decide +kernel
theorem dX8_addCart_26 : decode cX8_addCart 26 = .ok (.aload_n 0, 1) := by decide +kernel
theorem dX8_addCart_27 : decode cX8_addCart 27 = .ok (.getfield 12, 3) := by decide +kernel
theorem dX8_addCart_30 : decode cX8_addCart 30 = .ok (.iload_n 1, 1) := by decide +kernel
theorem dX8_addCart_31 : decode cX8_addCart 31 = .ok (.invokevirtual 112, 3) := by decide +kernel
theorem dX8_addCart_34 : decode cX8_addCart 34 = .ok (.ifCond .eq 6, 3) := by decide +kernel
theorem dX8_addCart_37 : decode cX8_addCart 37 = .ok (.ldc 84, 2) := by decide +kernel
theorem dX8_addCart_39 : decode cX8_addCart 39 = .ok (.ireturn, 1) := by decide +kernel
theorem dX8_addCart_40 : decode cX8_addCart 40 = .ok (.aload_n 0, 1) := by decide +kernel
theorem dX8_addCart_41 : decode cX8_addCart 41 = .ok (.getfield 36, 3) := by decide +kernel
theorem dX8_addCart_44 : decode cX8_addCart 44 = .ok (.iconst 4, 1) := by decide +kernel
theorem dX8_addCart_45 : decode cX8_addCart 45 = .ok (.if_icmp .lt 6, 3) := by decide +kernel
theorem dX8_addCart_48 : decode cX8_addCart 48 = .ok (.ldc 115, 2) := by decide +kernel
theorem dX8_addCart_50 : decode cX8_addCart 50 = .ok (.ireturn, 1) := by decide +kernel
theorem dX8_addCart_51 : decode cX8_addCart 51 = .ok (.aload_n 0, 1) := by decide +kernel
theorem dX8_addCart_52 : decode cX8_addCart 52 = .ok (.getfield 21, 3) := by decide +kernel
theorem dX8_addCart_55 : decode cX8_addCart 55 = .ok (.aload_n 0, 1) := by decide +kernel
theorem dX8_addCart_56 : decode cX8_addCart 56 = .ok (.getfield 36, 3) := by decide +kernel
theorem dX8_addCart_59 : decode cX8_addCart 59 = .ok (.aaload, 1) := by decide +kernel
theorem dX8_addCart_60 : decode cX8_addCart 60 = .ok (.iload_n 1, 1) := by decide +kernel
theorem dX8_addCart_61 : decode cX8_addCart 61 = .ok (.iload_n 2, 1) := by decide +kernel
theorem dX8_addCart_62 : decode cX8_addCart 62 = .ok (.invokevirtual 116, 3) := by decide +kernel
theorem dX8_addCart_65 : decode cX8_addCart 65 = .ok (.aload_n 0, 1) := by decide +kernel
theorem dX8_addCart_66 : decode cX8_addCart 66 = .ok (.dup, 1) := by decide +kernel
theorem dX8_addCart_67 : decode cX8_addCart 67 = .ok (.getfield 36, 3) := by decide +kernel
theorem dX8_addCart_70 : decode cX8_addCart 70 = .ok (.iconst 1, 1) := by decide +kernel
theorem dX8_addCart_71 : decode cX8_addCart 71 = .ok (.iadd, 1) := by decide +kernel
theorem dX8_addCart_72 : decode cX8_addCart 72 = .ok (.putfield 36, 3) := by decide +kernel
theorem dX8_addCart_75 : decode cX8_addCart 75 = .ok (.aload_n 0, 1) := by decide +kernel
theorem dX8_addCart_76 : decode cX8_addCart 76 = .ok (.getfield 36, 3) := by decide +kernel
theorem dX8_addCart_79 : decode cX8_addCart 79 = .ok (.iconst 1, 1) := by decide +kernel
theorem dX8_addCart_80 : decode cX8_addCart 80 = .ok (.isub, 1) := by decide +kernel
theorem dX8_addCart_81 : decode cX8_addCart 81 = .ok (.ireturn, 1) := by decide +kernel
theorem dX8_layCard_0 : decode cX8_layCard 0 = .ok (.aload_n 0, 1) := by decide +kernel
theorem dX8_layCard_1 : decode cX8_layCard 1 = .ok (.iload_n 1, 1) := by decide +kernel
theorem dX8_layCard_2 : decode cX8_layCard 2 = .ok (.invokevirtual 119, 3) := by decide +kernel
theorem dX8_layCard_5 : decode cX8_layCard 5 = .ok (.ifCond .eq 32, 3) := by decide +kernel
theorem dX8_layCard_8 : decode cX8_layCard 8 = .ok (.iload_n 2, 1) := by decide +kernel
theorem dX8_layCard_9 : decode cX8_layCard 9 = .ok (.invokestatic 122, 3) := by decide +kernel
theorem dX8_layCard_12 : decode cX8_layCard 12 = .ok (.ifCond .eq 25, 3) := by decide +kernel
theorem dX8_layCard_15 : decode cX8_layCard 15 = .ok (.iload_n 3, 1) := by decide +kernel
theorem dX8_layCard_16 : decode cX8_layCard 16 = .ok (.iconst 0, 1) := by decide +kernel
theorem dX8_layCard_17 : decode cX8_layCard 17 = .ok (.bipush 6, 2) := by decide +kernel
theorem dX8_layCard_19 : decode cX8_layCard 19 = .ok (.invokestatic 79, 3) := by decide +kernel
theorem dX8_layCard_22 : decode cX8_layCard 22 = .ok (.ifCond .eq 15, 3) := by decide +kernel
theorem dX8_layCard_25 : decode cX8_layCard 25 = .ok (.iload 4, 2) := by decide +kernel
theorem dX8_layCard_27 : decode cX8_layCard 27 = .ok (.iconst 1, 1) := by decide +kernel
theorem dX8_layCard_28 : decode cX8_layCard 28 = .ok (.sipush 999, 3) := by decide +kernel
theorem dX8_layCard_31 : decode cX8_layCard 31 = .ok (.invokestatic 79, 3) := by decide +kernel
theorem dX8_layCard_34 : decode cX8_layCard 34 = .ok (.ifCond .ne 6, 3) := by decide +kernel
theorem dX8_layCard_37 : decode cX8_layCard 37 = .ok (.ldc 83, 2) := by decide +kernel
theorem dX8_layCard_39 : decode cX8_layCard 39 = .ok (.ireturn, 1) := by decide +kernel
theorem dX8_layCard_40 : decode cX8_layCard 40 = .ok (.aload_n 0, 1) := by decide +kernel
theorem dX8_layCard_41 : decode cX8_layCard 41 = .ok (.getfield 21, 3) := by decide +kernel
theorem dX8_layCard_44 : decode cX8_layCard 44 = .ok (.iload_n 1, 1) := by decide +kernel
theorem dX8_layCard_45 : decode cX8_layCard 45 = .ok (.aaload, 1) := by decide +kernel
theorem dX8_layCard_46 : decode cX8_layCard 46 = .ok (.astore 5, 2) := by decide +kernel
theorem dX8_layCard_48 : decode cX8_layCard 48 = .ok (.aload 5, 2) := by decide +kernel
theorem dX8_layCard_50 : decode cX8_layCard 50 = .ok (.iload_n 2, 1) := by decide +kernel
theorem dX8_layCard_51 : decode cX8_layCard 51 = .ok (.invokevirtual 125, 3) := by decide +kernel
theorem dX8_layCard_54 : decode cX8_layCard 54 = .ok (.ifCond .ne 19, 3) := by decide +kernel
theorem dX8_layCard_57 : decode cX8_layCard 57 = .ok (.aload 5, 2) := by decide +kernel
theorem dX8_layCard_59 : decode cX8_layCard 59 = .ok (.invokevirtual 54, 3) := by decide +kernel
theorem dX8_layCard_62 : decode cX8_layCard 62 = .ok (.ifCond .ne 11, 3) := by decide +kernel
theorem dX8_layCard_65 : decode cX8_layCard 65 = .ok (.iload_n 2, 1) := by decide +kernel
theorem dX8_layCard_66 : decode cX8_layCard 66 = .ok (.aload_n 0, 1) := by decide +kernel
theorem dX8_layCard_67 : decode cX8_layCard 67 = .ok (.getfield 39, 3) := by decide +kernel
