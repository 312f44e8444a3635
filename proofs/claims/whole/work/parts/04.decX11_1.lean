theorem dX11_gears_4 : decode cX11_gears 4 = .ok (.getfield 7, 3) := by decide +kernel
theorem dX11_gears_7 : decode cX11_gears 7 = .ok (.iconst 0, 1) := by decide +kernel
theorem dX11_gears_8 : decode cX11_gears 8 = .ok (.iaload, 1) := by decide +kernel
theorem dX11_gears_9 : decode cX11_gears 9 = .ok (.if_icmp .ge 61, 3) := by decide +kernel
theorem dX11_gears_12 : decode cX11_gears 12 = .ok (.aload_n 0, 1) := by decide +kernel
theorem dX11_gears_13 : decode cX11_gears 13 = .ok (.iload_n 1, 1) := by decide +kernel
theorem dX11_gears_14 : decode cX11_gears 14 = .ok (.invokevirtual 86, 3) := by decide +kernel
theorem dX11_gears_17 : decode cX11_gears 17 = .ok (.ifCond .eq 7, 3) := by decide +kernel
theorem dX11_gears_20 : decode cX11_gears 20 = .ok (.iconst 0, 1) := by decide +kernel
theorem dX11_gears_21 : decode cX11_gears 21 = .ok (.goto 17, 3) := by decide +kernel
theorem dX11_gears_24 : decode cX11_gears 24 = .ok (.aload_n 0, 1) := by decide +kernel
theorem dX11_gears_25 : decode cX11_gears 25 = .ok (.getfield 7, 3) := by decide +kernel
theorem dX11_gears_28 : decode cX11_gears 28 = .ok (.bipush 11, 2) := by decide +kernel
theorem dX11_gears_30 : decode cX11_gears 30 = .ok (.aload_n 0, 1) := by decide +kernel
theorem dX11_gears_31 : decode cX11_gears 31 = .ok (.iload_n 1, 1) := by decide +kernel
theorem dX11_gears_32 : decode cX11_gears 32 = .ok (.iconst 1, 1) := by decide +kernel
theorem dX11_gears_33 : decode cX11_gears 33 = .ok (.invokevirtual 56, 3) := by decide +kernel
theorem dX11_gears_36 : decode cX11_gears 36 = .ok (.iadd, 1) := by decide +kernel
theorem dX11_gears_37 : decode cX11_gears 37 = .ok (.iaload, 1) := by decide +kernel
theorem dX11_gears_38 : decode cX11_gears 38 = .ok (.istore_n 2, 1) := by decide +kernel
theorem dX11_gears_39 : decode cX11_gears 39 = .ok (.aload_n 0, 1) := by decide +kernel
theorem dX11_gears_40 : decode cX11_gears 40 = .ok (.iload_n 1, 1) := by decide +kernel
theorem dX11_gears_41 : decode cX11_gears 41 = .ok (.iload_n 2, 1) := by decide +kernel
theorem dX11_gears_42 : decode cX11_gears 42 = .ok (.iconst 5, 1) := by decide +kernel
theorem dX11_gears_43 : decode cX11_gears 43 = .ok (.if_icmp .ne 7, 3) := by decide +kernel
theorem dX11_gears_46 : decode cX11_gears 46 = .ok (.iconst 3, 1) := by decide +kernel
theorem dX11_gears_47 : decode cX11_gears 47 = .ok (.goto 14, 3) := by decide +kernel
theorem dX11_gears_50 : decode cX11_gears 50 = .ok (.iload_n 2, 1) := by decide +kernel
theorem dX11_gears_51 : decode cX11_gears 51 = .ok (.bipush 6, 2) := by decide +kernel
theorem dX11_gears_53 : decode cX11_gears 53 = .ok (.if_icmp .ne 7, 3) := by decide +kernel
theorem dX11_gears_56 : decode cX11_gears 56 = .ok (.iconst 1, 1) := by decide +kernel
theorem dX11_gears_57 : decode cX11_gears 57 = .ok (.goto 4, 3) := by decide +kernel
theorem dX11_gears_60 : decode cX11_gears 60 = .ok (.iconst 0, 1) := by decide +kernel
theorem dX11_gears_61 : decode cX11_gears 61 = .ok (.invokevirtual 96, 3) := by decide +kernel
theorem dX11_gears_64 : decode cX11_gears 64 = .ok (.iinc 1 1, 3) := by decide +kernel
theorem dX11_gears_67 : decode cX11_gears 67 = .ok (.goto (-65), 3) := by decide +kernel
theorem dX11_gears_70 : decode cX11_gears 70 = .ok (.return_, 1) := by decide +kernel
theorem dX11_nextFlag_0 : decode cX11_nextFlag 0 = .ok (.aload_n 0, 1) := by decide +kernel
theorem dX11_nextFlag_1 : decode cX11_nextFlag 1 = .ok (.iload_n 1, 1) := by decide +kernel
theorem dX11_nextFlag_2 : decode cX11_nextFlag 2 = .ok (.iconst 4, 1) := by decide +kernel
theorem dX11_nextFlag_3 : decode cX11_nextFlag 3 = .ok (.invokevirtual 56, 3) := by decide +kernel
theorem dX11_nextFlag_6 : decode cX11_nextFlag 6 = .ok (.aload_n 0, 1) := by decide +kernel
theorem dX11_nextFlag_7 : decode cX11_nextFlag 7 = .ok (.getfield 7, 3) := by decide +kernel
theorem dX11_nextFlag_10 : decode cX11_nextFlag 10 = .ok (.iconst 3, 1) := by decide +kernel
theorem dX11_nextFlag_11 : decode cX11_nextFlag 11 = .ok (.iaload, 1) := by decide +kernel
theorem dX11_nextFlag_12 : decode cX11_nextFlag 12 = .ok (.if_icmp .ge 20, 3) := by decide +kernel
theorem dX11_nextFlag_15 : decode cX11_nextFlag 15 = .ok (.aload_n 0, 1) := by decide +kernel
theorem dX11_nextFlag_16 : decode cX11_nextFlag 16 = .ok (.getfield 7, 3) := by decide +kernel
theorem dX11_nextFlag_19 : decode cX11_nextFlag 19 = .ok (.bipush 7, 2) := by decide +kernel
theorem dX11_nextFlag_21 : decode cX11_nextFlag 21 = .ok (.aload_n 0, 1) := by decide +kernel
theorem dX11_nextFlag_22 : decode cX11_nextFlag 22 = .ok (.iload_n 1, 1) := by decide +kernel
theorem dX11_nextFlag_23 : decode cX11_nextFlag 23 = .ok (.iconst 4, 1) := by decide +kernel
theorem dX11_nextFlag_24 : decode cX11_nextFlag 24 = .ok (.invokevirtual 56, 3) := by decide +kernel
theorem dX11_nextFlag_27 : decode cX11_nextFlag 27 = .ok (.iadd, 1) := by decide +kernel
theorem dX11_nextFlag_28 : decode cX11_nextFlag 28 = .ok (.iaload, 1) := by decide +kernel
theorem dX11_nextFlag_29 : decode cX11_nextFlag 29 = .ok (.goto 4, 3) := by decide +kernel
theorem dX11_nextFlag_32 : decode cX11_nextFlag 32 = .ok (.iconst (-1), 1) := by decide +kernel
theorem dX11_nextFlag_33 : decode cX11_nextFlag 33 = .ok (.ireturn, 1) := by decide +kernel
theorem dX11_touches_0 : decode cX11_touches 0 = .ok (.iconst 0, 1) := by decide +kernel
theorem dX11_touches_1 : decode cX11_touches 1 = .ok (.istore_n 1, 1) := by decide +kernel
theorem dX11_touches_2 : decode cX11_touches 2 = .ok (.iload_n 1, 1) := by decide +kernel
theorem dX11_touches_3 : decode cX11_touches 3 = .ok (.aload_n 0, 1) := by decide +kernel
theorem dX11_touches_4 : decode cX11_touches 4 = .ok (.getfield 7, 3) := by decide +kernel
theorem dX11_touches_7 : decode cX11_touches 7 = .ok (.iconst 0, 1) := by decide +kernel
theorem dX11_touches_8 : decode cX11_touches 8 = .ok (.iaload, 1) := by decide +kernel
theorem dX11_touches_9 : decode cX11_touches 9 = .ok (.if_icmp .ge 77, 3) := by decide +kernel
theorem dX11_touches_12 : decode cX11_touches 12 = .ok (.aload_n 0, 1) := by decide +kernel
theorem dX11_touches_13 : decode cX11_touches 13 = .ok (.iload_n 1, 1) := by decide +kernel
theorem dX11_touches_14 : decode cX11_touches 14 = .ok (.invokevirtual 86, 3) := by decide +kernel
theorem dX11_touches_17 : decode cX11_touches 17 = .ok (.ifCond .ne 63, 3) := by decide +kernel
theorem dX11_touches_20 : decode cX11_touches 20 = .ok (.aload_n 0, 1) := by decide +kernel
theorem dX11_touches_21 : decode cX11_touches 21 = .ok (.iload_n 1, 1) := by decide +kernel
theorem dX11_touches_22 : decode cX11_touches 22 = .ok (.invokevirtual 118, 3) := by decide +kernel
theorem dX11_touches_25 : decode cX11_touches 25 = .ok (.aload_n 0, 1) := by decide +kernel
theorem dX11_touches_26 : decode cX11_touches 26 = .ok (.iload_n 1, 1) := by decide +kernel
theorem dX11_touches_27 : decode cX11_touches 27 = .ok (.iconst 1, 1) := by decide +kernel
theorem dX11_touches_28 : decode cX11_touches 28 = .ok (.invokevirtual 56, 3) := by decide +kernel
theorem dX11_touches_31 : decode cX11_touches 31 = .ok (.if_icmp .ne 49, 3) := by decide +kernel
theorem dX11_touches_34 : decode cX11_touches 34 = .ok (.aload_n 0, 1) := by decide +kernel
theorem dX11_touches_35 : decode cX11_touches 35 = .ok (.iload_n 1, 1) := by decide +kernel
theorem dX11_touches_36 : decode cX11_touches 36 = .ok (.iconst 4, 1) := by decide +kernel
theorem dX11_touches_37 : decode cX11_touches 37 = .ok (.invokevirtual 64, 3) := by decide +kernel
theorem dX11_touches_40 : decode cX11_touches 40 = .ok (.aload_n 0, 1) := by decide +kernel
theorem dX11_touches_41 : decode cX11_touches 41 = .ok (.getfield 7, 3) := by decide +kernel
theorem dX11_touches_44 : decode cX11_touches 44 = .ok (.iconst 4, 1) := by decide +kernel
theorem dX11_touches_45 : decode cX11_touches 45 = .ok (.aload_n 0, 1) := by decide +kernel
theorem dX11_touches_46 : decode cX11_touches 46 = .ok (.getfield 7, 3) := by decide +kernel
theorem dX11_touches_49 : decode cX11_touches 49 = .ok (.iconst 4, 1) := by decide +kernel
theorem dX11_touches_50 : decode cX11_touches 50 = .ok (.iaload, 1) := by decide +kernel
theorem dX11_touches_51 : decode cX11_touches 51 = .ok (.ifCond .ge 22, 3) := by decide +kernel
theorem dX11_touches_54 : decode cX11_touches 54 = .ok (.aload_n 0, 1) := by decide +kernel
theorem dX11_touches_55 : decode cX11_touches 55 = .ok (.iload_n 1, 1) := by decide +kernel
theorem dX11_touches_56 : decode cX11_touches 56 = .ok (.iconst 4, 1) := by decide +kernel
theorem dX11_touches_57 : decode cX11_touches 57 = .ok (.invokevirtual 56, 3) := by decide +kernel
theorem dX11_touches_60 : decode cX11_touches 60 = .ok (.aload_n 0, 1) := by decide +kernel
theorem dX11_touches_61 : decode cX11_touches 61 = .ok (.getfield 7, 3) := by decide +kernel
theorem dX11_touches_64 : decode cX11_touches 64 = .ok (.iconst 3, 1) := by decide +kernel
theorem dX11_touches_65 : decode cX11_touches 65 = .ok (.iaload, 1) := by decide +kernel
theorem dX11_touches_66 : decode cX11_touches 66 = .ok (.if_icmp .ne 7, 3) := by decide +kernel
theorem dX11_touches_69 : decode cX11_touches 69 = .ok (.iload_n 1, 1) := by decide +kernel
theorem dX11_touches_70 : decode cX11_touches 70 = .ok (.goto 9, 3) := by decide +kernel
theorem dX11_touches_73 : decode cX11_touches 73 = .ok (.aload_n 0, 1) := by decide +kernel
theorem dX11_touches_74 : decode cX11_touches 74 = .ok (.getfield 7, 3) := by decide +kernel
theorem dX11_touches_77 : decode cX11_touches 77 = .ok (.iconst 4, 1) := by decide +kernel
theorem dX11_touches_78 : decode cX11_touches 78 = .ok (.iaload, 1) := by decide +kernel
theorem dX11_touches_79 : decode cX11_touches 79 = .ok (.iastore, 1) := by decide +kernel
theorem dX11_touches_80 : decode cX11_touches 80 = .ok (.iinc 1 1, 3) := by decide +kernel
theorem dX11_touches_83 : decode cX11_touches 83 = .ok (.goto (-81), 3) := by decide +kernel
theorem dX11_touches_86 : decode cX11_touches 86 = .ok (.return_, 1) := by decide +kernel
theorem dX11_empties_0 : decode cX11_empties 0 = .ok (.iconst 0, 1) := by decide +kernel
theorem dX11_empties_1 : decode cX11_empties 1 = .ok (.istore_n 3, 1) := by decide +kernel
theorem dX11_empties_2 : decode cX11_empties 2 = .ok (.iload_n 3, 1) := by decide +kernel
theorem dX11_empties_3 : decode cX11_empties 3 = .ok (.iconst 5, 1) := by decide +kernel
theorem dX11_empties_4 : decode cX11_empties 4 = .ok (.if_icmp .ge 48, 3) := by decide +kernel
theorem dX11_empties_7 : decode cX11_empties 7 = .ok (.iload_n 2, 1) := by decide +kernel
theorem dX11_empties_8 : decode cX11_empties 8 = .ok (.ifCond .ne 12, 3) := by decide +kernel
theorem dX11_empties_11 : decode cX11_empties 11 = .ok (.aload_n 0, 1) := by decide +kernel
theorem dX11_empties_12 : decode cX11_empties 12 = .ok (.iload_n 1, 1) := by decide +kernel
theorem dX11_empties_13 : decode cX11_empties 13 = .ok (.iload_n 3, 1) := by decide +kernel
theorem dX11_empties_14 : decode cX11_empties 14 = .ok (.invokevirtual 121, 3) := by decide +kernel
theorem dX11_empties_17 : decode cX11_empties 17 = .ok (.ifCond .ne 29, 3) := by decide +kernel
theorem dX11_empties_20 : decode cX11_empties 20 = .ok (.aload_n 0, 1) := by decide +kernel
theorem dX11_empties_21 : decode cX11_empties 21 = .ok (.iload_n 1, 1) := by decide +kernel
theorem dX11_empties_22 : decode cX11_empties 22 = .ok (.bipush 7, 2) := by decide +kernel
theorem dX11_empties_24 : decode cX11_empties 24 = .ok (.iconst 2, 1) := by decide +kernel
theorem dX11_empties_25 : decode cX11_empties 25 = .ok (.iload_n 3, 1) := by decide +kernel
theorem dX11_empties_26 : decode cX11_empties 26 = .ok (.imul, 1) := by decide +kernel
theorem dX11_empties_27 : decode cX11_empties 27 = .ok (.iadd, 1) := by decide +kernel
theorem dX11_empties_28 : decode cX11_empties 28 = .ok (.iconst 0, 1) := by decide +kernel
theorem dX11_empties_29 : decode cX11_empties 29 = .ok (.invokevirtual 60, 3) := by decide +kernel
theorem dX11_empties_32 : decode cX11_empties 32 = .ok (.aload_n 0, 1) := by decide +kernel
theorem dX11_empties_33 : decode cX11_empties 33 = .ok (.iload_n 1, 1) := by decide +kernel
theorem dX11_empties_34 : decode cX11_empties 34 = .ok (.bipush 7, 2) := by decide +kernel
theorem dX11_empties_36 : decode cX11_empties 36 = .ok (.iconst 2, 1) := by decide +kernel
theorem dX11_empties_37 : decode cX11_empties 37 = .ok (.iload_n 3, 1) := by decide +kernel
theorem dX11_empties_38 : decode cX11_empties 38 = .ok (.imul, 1) := by decide +kernel
theorem dX11_empties_39 : decode cX11_empties 39 = .ok (.iadd, 1) := by decide +kernel
theorem dX11_empties_40 : decode cX11_empties 40 = .ok (.iconst 1, 1) := by decide +kernel
theorem dX11_empties_41 : decode cX11_empties 41 = .ok (.iadd, 1) := by decide +kernel
theorem dX11_empties_42 : decode cX11_empties 42 = .ok (.iconst 0, 1) := by decide +kernel
theorem dX11_empties_43 : decode cX11_empties 43 = .ok (.invokevirtual 60, 3) := by decide +kernel
theorem dX11_empties_46 : decode cX11_empties 46 = .ok (.iinc 3 1, 3) := by decide +kernel
theorem dX11_empties_49 : decode cX11_empties 49 = .ok (.goto (-47), 3) := by decide +kernel
theorem dX11_empties_52 : decode cX11_empties 52 = .ok (.return_, 1) := by decide +kernel
theorem dX11_isGood_0 : decode cX11_isGood 0 = .ok (.aload_n 0, 1) := by decide +kernel
theorem dX11_isGood_1 : decode cX11_isGood 1 = .ok (.getfield 7, 3) := by decide +kernel
theorem dX11_isGood_4 : decode cX11_isGood 4 = .ok (.bipush 11, 2) := by decide +kernel
theorem dX11_isGood_6 : decode cX11_isGood 6 = .ok (.iload_n 1, 1) := by decide +kernel
theorem dX11_isGood_7 : decode cX11_isGood 7 = .ok (.iadd, 1) := by decide +kernel
theorem dX11_isGood_8 : decode cX11_isGood 8 = .ok (.iaload, 1) := by decide +kernel
theorem dX11_isGood_9 : decode cX11_isGood 9 = .ok (.bipush 7, 2) := by decide +kernel
theorem dX11_isGood_11 : decode cX11_isGood 11 = .ok (.if_icmp .eq 15, 3) := by decide +kernel
theorem dX11_isGood_14 : decode cX11_isGood 14 = .ok (.aload_n 0, 1) := by decide +kernel
theorem dX11_isGood_15 : decode cX11_isGood 15 = .ok (.iload_n 1, 1) := by decide +kernel
theorem dX11_isGood_16 : decode cX11_isGood 16 = .ok (.invokevirtual 79, 3) := by decide +kernel
theorem dX11_isGood_19 : decode cX11_isGood 19 = .ok (.ifCond .ge 7, 3) := by decide +kernel
theorem dX11_isGood_22 : decode cX11_isGood 22 = .ok (.iconst 1, 1) := by decide +kernel
theorem dX11_isGood_23 : decode cX11_isGood 23 = .ok (.goto 4, 3) := by decide +kernel
theorem dX11_isGood_26 : decode cX11_isGood 26 = .ok (.iconst 0, 1) := by decide +kernel
theorem dX11_isGood_27 : decode cX11_isGood 27 = .ok (.ireturn, 1) := by decide +kernel
theorem dX11_comesBack_0 : decode cX11_comesBack 0 = .ok (.aload_n 0, 1) := by decide +kernel
theorem dX11_comesBack_1 : decode cX11_comesBack 1 = .ok (.iload_n 1, 1) := by decide +kernel
theorem dX11_comesBack_2 : decode cX11_comesBack 2 = .ok (.iconst 0, 1) := by decide +kernel
theorem dX11_comesBack_3 : decode cX11_comesBack 3 = .ok (.invokevirtual 56, 3) := by decide +kernel
theorem dX11_comesBack_6 : decode cX11_comesBack 6 = .ok (.istore_n 2, 1) := by decide +kernel
theorem dX11_comesBack_7 : decode cX11_comesBack 7 = .ok (.aload_n 0, 1) := by decide +kernel
theorem dX11_comesBack_8 : decode cX11_comesBack 8 = .ok (.iload_n 2, 1) := by decide +kernel
theorem dX11_comesBack_9 : decode cX11_comesBack 9 = .ok (.invokevirtual 124, 3) := by decide +kernel
theorem dX11_comesBack_12 : decode cX11_comesBack 12 = .ok (.ifCond .ne 25, 3) := by decide +kernel
theorem dX11_comesBack_15 : decode cX11_comesBack 15 = .ok (.iconst 0, 1) := by decide +kernel
theorem dX11_comesBack_16 : decode cX11_comesBack 16 = .ok (.istore_n 2, 1) := by decide +kernel
theorem dX11_comesBack_17 : decode cX11_comesBack 17 = .ok (.iload_n 2, 1) := by decide +kernel
theorem dX11_comesBack_18 : decode cX11_comesBack 18 = .ok (.bipush 64, 2) := by decide +kernel
theorem dX11_comesBack_20 : decode cX11_comesBack 20 = .ok (.if_icmp .ge 17, 3) := by decide +kernel
theorem dX11_comesBack_23 : decode cX11_comesBack 23 = .ok (.aload_n 0, 1) := by decide +kernel
theorem dX11_comesBack_24 : decode cX11_comesBack 24 = .ok (.iload_n 2, 1) := by decide +kernel
theorem dX11_comesBack_25 : decode cX11_comesBack 25 = .ok (.invokevirtual 124, 3) := by decide +kernel
theorem dX11_comesBack_28 : decode cX11_comesBack 28 = .ok (.ifCond .ne 9, 3) := by decide +kernel
theorem dX11_comesBack_31 : decode cX11_comesBack 31 = .ok (.iinc 2 1, 3) := by decide +kernel
theorem dX11_comesBack_34 : decode cX11_comesBack 34 = .ok (.goto (-17), 3) := by decide +kernel
theorem dX11_comesBack_37 : decode cX11_comesBack 37 = .ok (.aload_n 0, 1) := by decide +kernel
theorem dX11_comesBack_38 : decode cX11_comesBack 38 = .ok (.iload_n 1, 1) := by decide +kernel
theorem dX11_comesBack_39 : decode cX11_comesBack 39 = .ok (.iconst 1, 1) := by decide +kernel
theorem dX11_comesBack_40 : decode cX11_comesBack 40 = .ok (.iload_n 2, 1) := by decide +kernel
theorem dX11_comesBack_41 : decode cX11_comesBack 41 = .ok (.bipush 64, 2) := by decide +kernel
theorem dX11_comesBack_43 : decode cX11_comesBack 43 = .ok (.if_icmp .ne 7, 3) := by decide +kernel
theorem dX11_comesBack_46 : decode cX11_comesBack 46 = .ok (.iconst (-1), 1) := by decide +kernel
theorem dX11_comesBack_47 : decode cX11_comesBack 47 = .ok (.goto 4, 3) := by decide +kernel
theorem dX11_comesBack_50 : decode cX11_comesBack 50 = .ok (.iload_n 2, 1) := by decide +kernel
theorem dX11_comesBack_51 : decode cX11_comesBack 51 = .ok (.invokevirtual 60, 3) := by decide +kernel
theorem dX11_comesBack_54 : decode cX11_comesBack 54 = .ok (.aload_n 0, 1) := by decide +kernel
theorem dX11_comesBack_55 : decode cX11_comesBack 55 = .ok (.iload_n 1, 1) := by decide +kernel
theorem dX11_comesBack_56 : decode cX11_comesBack 56 = .ok (.iconst 2, 1) := by decide +kernel
theorem dX11_comesBack_57 : decode cX11_comesBack 57 = .ok (.iconst 0, 1) := by decide +kernel
theorem dX11_comesBack_58 : decode cX11_comesBack 58 = .ok (.invokevirtual 60, 3) := by decide +kernel
theorem dX11_comesBack_61 : decode cX11_comesBack 61 = .ok (.aload_n 0, 1) := by decide +kernel
theorem dX11_comesBack_62 : decode cX11_comesBack 62 = .ok (.iload_n 1, 1) := by decide +kernel
theorem dX11_comesBack_63 : decode cX11_comesBack 63 = .ok (.iconst 3, 1) := by decide +kernel
theorem dX11_comesBack_64 : decode cX11_comesBack 64 = .ok (.iconst 2, 1) := by decide +kernel
theorem dX11_comesBack_65 : decode cX11_comesBack 65 = .ok (.invokevirtual 60, 3) := by decide +kernel
theorem dX11_comesBack_68 : decode cX11_comesBack 68 = .ok (.aload_n 0, 1) := by decide +kernel
theorem dX11_comesBack_69 : decode cX11_comesBack 69 = .ok (.iload_n 1, 1) := by decide +kernel
theorem dX11_comesBack_70 : decode cX11_comesBack 70 = .ok (.iconst 1, 1) := by decide +kernel
theorem dX11_comesBack_71 : decode cX11_comesBack 71 = .ok (.invokevirtual 127, 3) := by decide +kernel
theorem dX11_comesBack_74 : decode cX11_comesBack 74 = .ok (.return_, 1) := by decide +kernel
theorem dX11_ends_0 : decode cX11_ends 0 = .ok (.iconst 0, 1) := by decide +kernel
theorem dX11_ends_1 : decode cX11_ends 1 = .ok (.istore_n 1, 1) := by decide +kernel
theorem dX11_ends_2 : decode cX11_ends 2 = .ok (.iload_n 1, 1) := by decide +kernel
theorem dX11_ends_3 : decode cX11_ends 3 = .ok (.aload_n 0, 1) := by decide +kernel
theorem dX11_ends_4 : decode cX11_ends 4 = .ok (.getfield 7, 3) := by decide +kernel
theorem dX11_ends_7 : decode cX11_ends 7 = .ok (.iconst 0, 1) := by decide +kernel
theorem dX11_ends_8 : decode cX11_ends 8 = .ok (.iaload, 1) := by decide +kernel
theorem dX11_ends_9 : decode cX11_ends 9 = .ok (.if_icmp .ge 79, 3) := by decide +kernel
theorem dX11_ends_12 : decode cX11_ends 12 = .ok (.aload_n 0, 1) := by decide +kernel
theorem dX11_ends_13 : decode cX11_ends 13 = .ok (.iload_n 1, 1) := by decide +kernel
theorem dX11_ends_14 : decode cX11_ends 14 = .ok (.invokevirtual 86, 3) := by decide +kernel
theorem dX11_ends_17 : decode cX11_ends 17 = .ok (.ifCond .ne 35, 3) := by decide +kernel
theorem dX11_ends_20 : decode cX11_ends 20 = .ok (.aload_n 0, 1) := by decide +kernel
theorem dX11_ends_21 : decode cX11_ends 21 = .ok (.getfield 7, 3) := by decide +kernel
theorem dX11_ends_24 : decode cX11_ends 24 = .ok (.bipush 11, 2) := by decide +kernel
theorem dX11_ends_26 : decode cX11_ends 26 = .ok (.aload_n 0, 1) := by decide +kernel
theorem dX11_ends_27 : decode cX11_ends 27 = .ok (.iload_n 1, 1) := by decide +kernel
theorem dX11_ends_28 : decode cX11_ends 28 = .ok (.iconst 1, 1) := by decide +kernel
theorem dX11_ends_29 : decode cX11_ends 29 = .ok (.invokevirtual 56, 3) := by decide +kernel
theorem dX11_ends_32 : decode cX11_ends 32 = .ok (.iadd, 1) := by decide +kernel
theorem dX11_ends_33 : decode cX11_ends 33 = .ok (.iaload, 1) := by decide +kernel
theorem dX11_ends_34 : decode cX11_ends 34 = .ok (.bipush 8, 2) := by decide +kernel
theorem dX11_ends_36 : decode cX11_ends 36 = .ok (.if_icmp .ne 16, 3) := by decide +kernel
theorem dX11_ends_39 : decode cX11_ends 39 = .ok (.aload_n 0, 1) := by decide +kernel
theorem dX11_ends_40 : decode cX11_ends 40 = .ok (.iload_n 1, 1) := by decide +kernel
theorem dX11_ends_41 : decode cX11_ends 41 = .ok (.iconst 3, 1) := by decide +kernel
theorem dX11_ends_42 : decode cX11_ends 42 = .ok (.invokevirtual 56, 3) := by decide +kernel
theorem dX11_ends_45 : decode cX11_ends 45 = .ok (.ifCond .le 7, 3) := by decide +kernel
theorem dX11_ends_48 : decode cX11_ends 48 = .ok (.iconst 1, 1) := by decide +kernel
theorem dX11_ends_49 : decode cX11_ends 49 = .ok (.goto 4, 3) := by decide +kernel
theorem dX11_ends_52 : decode cX11_ends 52 = .ok (.iconst 0, 1) := by decide +kernel
theorem dX11_ends_53 : decode cX11_ends 53 = .ok (.istore_n 2, 1) := by decide +kernel
theorem dX11_ends_54 : decode cX11_ends 54 = .ok (.aload_n 0, 1) := by decide +kernel
theorem dX11_ends_55 : decode cX11_ends 55 = .ok (.iload_n 1, 1) := by decide +kernel
theorem dX11_ends_56 : decode cX11_ends 56 = .ok (.iconst 3, 1) := by decide +kernel
theorem dX11_ends_57 : decode cX11_ends 57 = .ok (.aload_n 0, 1) := by decide +kernel
theorem dX11_ends_58 : decode cX11_ends 58 = .ok (.iload_n 1, 1) := by decide +kernel
theorem dX11_ends_59 : decode cX11_ends 59 = .ok (.iconst 3, 1) := by decide +kernel
theorem dX11_ends_60 : decode cX11_ends 60 = .ok (.invokevirtual 56, 3) := by decide +kernel
theorem dX11_ends_63 : decode cX11_ends 63 = .ok (.iload_n 2, 1) := by decide +kernel
theorem dX11_ends_64 : decode cX11_ends 64 = .ok (.ifCond .eq 7, 3) := by decide +kernel
theorem dX11_ends_67 : decode cX11_ends 67 = .ok (.iconst 1, 1) := by decide +kernel
theorem dX11_ends_68 : decode cX11_ends 68 = .ok (.goto 4, 3) := by decide +kernel
theorem dX11_ends_71 : decode cX11_ends 71 = .ok (.iconst 0, 1) := by decide +kernel
theorem dX11_ends_72 : decode cX11_ends 72 = .ok (.isub, 1) := by decide +kernel
theorem dX11_ends_73 : decode cX11_ends 73 = .ok (.invokevirtual 60, 3) := by decide +kernel
theorem dX11_ends_76 : decode cX11_ends 76 = .ok (.aload_n 0, 1) := by decide +kernel
theorem dX11_ends_77 : decode cX11_ends 77 = .ok (.iload_n 1, 1) := by decide +kernel
theorem dX11_ends_78 : decode cX11_ends 78 = .ok (.iconst 0, 1) := by decide +kernel
theorem dX11_ends_79 : decode cX11_ends 79 = .ok (.invokevirtual 127, 3) := by decide +kernel
theorem dX11_ends_82 : decode cX11_ends 82 = .ok (.iinc 1 1, 3) := by decide +kernel
theorem dX11_ends_85 : decode cX11_ends 85 = .ok (.goto (-83), 3) := by decide +kernel
theorem dX11_ends_88 : decode cX11_ends 88 = .ok (.iconst 0, 1) := by decide +kernel
theorem dX11_ends_89 : decode cX11_ends 89 = .ok (.istore_n 1, 1) := by decide +kernel
theorem dX11_ends_90 : decode cX11_ends 90 = .ok (.iload_n 1, 1) := by decide +kernel
theorem dX11_ends_91 : decode cX11_ends 91 = .ok (.aload_n 0, 1) := by decide +kernel
theorem dX11_ends_92 : decode cX11_ends 92 = .ok (.getfield 7, 3) := by decide +kernel
theorem dX11_ends_95 : decode cX11_ends 95 = .ok (.iconst 0, 1) := by decide +kernel
theorem dX11_ends_96 : decode cX11_ends 96 = .ok (.iaload, 1) := by decide +kernel
theorem dX11_ends_97 : decode cX11_ends 97 = .ok (.if_icmp .ge 22, 3) := by decide +kernel
theorem dX11_ends_100 : decode cX11_ends 100 = .ok (.aload_n 0, 1) := by decide +kernel
theorem dX11_ends_101 : decode cX11_ends 101 = .ok (.iload_n 1, 1) := by decide +kernel
theorem dX11_ends_102 : decode cX11_ends 102 = .ok (.invokevirtual 86, 3) := by decide +kernel
theorem dX11_ends_105 : decode cX11_ends 105 = .ok (.ifCond .eq 8, 3) := by decide +kernel
theorem dX11_ends_108 : decode cX11_ends 108 = .ok (.aload_n 0, 1) := by decide +kernel
theorem dX11_ends_109 : decode cX11_ends 109 = .ok (.iload_n 1, 1) := by decide +kernel
theorem dX11_ends_110 : decode cX11_ends 110 = .ok (.invokevirtual 131, 3) := by decide +kernel
theorem dX11_ends_113 : decode cX11_ends 113 = .ok (.iinc 1 1, 3) := by decide +kernel
theorem dX11_ends_116 : decode cX11_ends 116 = .ok (.goto (-26), 3) := by decide +kernel
theorem dX11_ends_119 : decode cX11_ends 119 = .ok (.aload_n 0, 1) := by decide +kernel
theorem dX11_ends_120 : decode cX11_ends 120 = .ok (.getfield 7, 3) := by decide +kernel
theorem dX11_ends_123 : decode cX11_ends 123 = .ok (.iconst 1, 1) := by decide +kernel
theorem dX11_ends_124 : decode cX11_ends 124 = .ok (.iconst 0, 1) := by decide +kernel
theorem dX11_ends_125 : decode cX11_ends 125 = .ok (.iastore, 1) := by decide +kernel
theorem dX11_ends_126 : decode cX11_ends 126 = .ok (.aload_n 0, 1) := by decide +kernel
theorem dX11_ends_127 : decode cX11_ends 127 = .ok (.getfield 7, 3) := by decide +kernel
theorem dX11_ends_130 : decode cX11_ends 130 = .ok (.iconst 2, 1) := by decide +kernel
theorem dX11_ends_131 : decode cX11_ends 131 = .ok (.dup2, 1) := by decide +kernel
theorem dX11_ends_132 : decode cX11_ends 132 = .ok (.iaload, 1) := by decide +kernel
theorem dX11_ends_133 : decode cX11_ends 133 = .ok (.iconst 1, 1) := by decide +kernel
theorem dX11_ends_134 : decode cX11_ends 134 = .ok (.iadd, 1) := by decide +kernel
theorem dX11_ends_135 : decode cX11_ends 135 = .ok (.iastore, 1) := by decide +kernel
theorem dX11_ends_136 : decode cX11_ends 136 = .ok (.return_, 1) := by decide +kernel
theorem dX11_passes_0 : decode cX11_passes 0 = .ok (.aload_n 0, 1) := by decide +kernel
theorem dX11_passes_1 : decode cX11_passes 1 = .ok (.invokevirtual 134, 3) := by decide +kernel
theorem dX11_passes_4 : decode cX11_passes 4 = .ok (.istore_n 1, 1) := by decide +kernel
theorem dX11_passes_5 : decode cX11_passes 5 = .ok (.aload_n 0, 1) := by decide +kernel
theorem dX11_passes_6 : decode cX11_passes 6 = .ok (.getfield 7, 3) := by decide +kernel
theorem dX11_passes_9 : decode cX11_passes 9 = .ok (.iconst 1, 1) := by decide +kernel
theorem dX11_passes_10 : decode cX11_passes 10 = .ok (.iaload, 1) := by decide +kernel
theorem dX11_passes_11 : decode cX11_passes 11 = .ok (.istore_n 2, 1) := by decide +kernel
theorem dX11_passes_12 : decode cX11_passes 12 = .ok (.aload_n 0, 1) := by decide +kernel
theorem dX11_passes_13 : decode cX11_passes 13 = .ok (.invokevirtual 138, 3) := by decide +kernel
theorem dX11_passes_16 : decode cX11_passes 16 = .ok (.iconst 0, 1) := by decide +kernel
theorem dX11_passes_17 : decode cX11_passes 17 = .ok (.istore_n 3, 1) := by decide +kernel
theorem dX11_passes_18 : decode cX11_passes 18 = .ok (.iload_n 3, 1) := by decide +kernel
theorem dX11_passes_19 : decode cX11_passes 19 = .ok (.aload_n 0, 1) := by decide +kernel
theorem dX11_passes_20 : decode cX11_passes 20 = .ok (.getfield 99, 3) := by decide +kernel
theorem dX11_passes_23 : decode cX11_passes 23 = .ok (.if_icmp .ge 48, 3) := by decide +kernel
theorem dX11_passes_26 : decode cX11_passes 26 = .ok (.aload_n 0, 1) := by decide +kernel
theorem dX11_passes_27 : decode cX11_passes 27 = .ok (.aload_n 0, 1) := by decide +kernel
theorem dX11_passes_28 : decode cX11_passes 28 = .ok (.getfield 28, 3) := by decide +kernel
theorem dX11_passes_31 : decode cX11_passes 31 = .ok (.iload_n 3, 1) := by decide +kernel
theorem dX11_passes_32 : decode cX11_passes 32 = .ok (.iaload, 1) := by decide +kernel
theorem dX11_passes_33 : decode cX11_passes 33 = .ok (.invokevirtual 86, 3) := by decide +kernel
theorem dX11_passes_36 : decode cX11_passes 36 = .ok (.ifCond .ne 29, 3) := by decide +kernel
theorem dX11_passes_39 : decode cX11_passes 39 = .ok (.aload_n 0, 1) := by decide +kernel
theorem dX11_passes_40 : decode cX11_passes 40 = .ok (.aload_n 0, 1) := by decide +kernel
theorem dX11_passes_41 : decode cX11_passes 41 = .ok (.getfield 28, 3) := by decide +kernel
theorem dX11_passes_44 : decode cX11_passes 44 = .ok (.iload_n 3, 1) := by decide +kernel
theorem dX11_passes_45 : decode cX11_passes 45 = .ok (.iaload, 1) := by decide +kernel
theorem dX11_passes_46 : decode cX11_passes 46 = .ok (.aload_n 0, 1) := by decide +kernel
theorem dX11_passes_47 : decode cX11_passes 47 = .ok (.aload_n 0, 1) := by decide +kernel
theorem dX11_passes_48 : decode cX11_passes 48 = .ok (.getfield 28, 3) := by decide +kernel
theorem dX11_passes_51 : decode cX11_passes 51 = .ok (.iload_n 3, 1) := by decide +kernel
theorem dX11_passes_52 : decode cX11_passes 52 = .ok (.iaload, 1) := by decide +kernel
theorem dX11_passes_53 : decode cX11_passes 53 = .ok (.bipush 7, 2) := by decide +kernel
theorem dX11_passes_55 : decode cX11_passes 55 = .ok (.iconst 2, 1) := by decide +kernel
theorem dX11_passes_56 : decode cX11_passes 56 = .ok (.iload_n 2, 1) := by decide +kernel
theorem dX11_passes_57 : decode cX11_passes 57 = .ok (.imul, 1) := by decide +kernel
theorem dX11_passes_58 : decode cX11_passes 58 = .ok (.iadd, 1) := by decide +kernel
theorem dX11_passes_59 : decode cX11_passes 59 = .ok (.invokevirtual 56, 3) := by decide +kernel
theorem dX11_passes_62 : decode cX11_passes 62 = .ok (.invokevirtual 141, 3) := by decide +kernel
theorem dX11_passes_65 : decode cX11_passes 65 = .ok (.iinc 3 1, 3) := by decide +kernel
theorem dX11_passes_68 : decode cX11_passes 68 = .ok (.goto (-50), 3) := by decide +kernel
theorem dX11_passes_71 : decode cX11_passes 71 = .ok (.aload_n 0, 1) := by decide +kernel
theorem dX11_passes_72 : decode cX11_passes 72 = .ok (.invokevirtual 144, 3) := by decide +kernel
theorem dX11_passes_75 : decode cX11_passes 75 = .ok (.aload_n 0, 1) := by decide +kernel
theorem dX11_passes_76 : decode cX11_passes 76 = .ok (.invokevirtual 147, 3) := by decide +kernel
theorem dX11_passes_79 : decode cX11_passes 79 = .ok (.aload_n 0, 1) := by decide +kernel
theorem dX11_passes_80 : decode cX11_passes 80 = .ok (.invokevirtual 150, 3) := by decide +kernel
theorem dX11_passes_83 : decode cX11_passes 83 = .ok (.aload_n 0, 1) := by decide +kernel
theorem dX11_passes_84 : decode cX11_passes 84 = .ok (.getfield 7, 3) := by decide +kernel
theorem dX11_passes_87 : decode cX11_passes 87 = .ok (.iconst 5, 1) := by decide +kernel
theorem dX11_passes_88 : decode cX11_passes 88 = .ok (.dup2, 1) := by decide +kernel
theorem dX11_passes_89 : decode cX11_passes 89 = .ok (.iaload, 1) := by decide +kernel
theorem dX11_passes_90 : decode cX11_passes 90 = .ok (.iconst 1, 1) := by decide +kernel
theorem dX11_passes_91 : decode cX11_passes 91 = .ok (.iadd, 1) := by decide +kernel
theorem dX11_passes_92 : decode cX11_passes 92 = .ok (.iastore, 1) := by decide +kernel
theorem dX11_passes_93 : decode cX11_passes 93 = .ok (.aload_n 0, 1) := by decide +kernel
theorem dX11_passes_94 : decode cX11_passes 94 = .ok (.getfield 7, 3) := by decide +kernel
theorem dX11_passes_97 : decode cX11_passes 97 = .ok (.iconst 1, 1) := by decide +kernel
theorem dX11_passes_98 : decode cX11_passes 98 = .ok (.dup2, 1) := by decide +kernel
theorem dX11_passes_99 : decode cX11_passes 99 = .ok (.iaload, 1) := by decide +kernel
theorem dX11_passes_100 : decode cX11_passes 100 = .ok (.iconst 1, 1) := by decide +kernel
theorem dX11_passes_101 : decode cX11_passes 101 = .ok (.iadd, 1) := by decide +kernel
theorem dX11_passes_102 : decode cX11_passes 102 = .ok (.iastore, 1) := by decide +kernel
theorem dX11_passes_103 : decode cX11_passes 103 = .ok (.aload_n 0, 1) := by decide +kernel
theorem dX11_passes_104 : decode cX11_passes 104 = .ok (.getfield 7, 3) := by decide +kernel
theorem dX11_passes_107 : decode cX11_passes 107 = .ok (.iconst 1, 1) := by decide +kernel
theorem dX11_passes_108 : decode cX11_passes 108 = .ok (.iaload, 1) := by decide +kernel
theorem dX11_passes_109 : decode cX11_passes 109 = .ok (.iconst 5, 1) := by decide +kernel
theorem dX11_passes_110 : decode cX11_passes 110 = .ok (.if_icmp .ne 7, 3) := by decide +kernel
theorem dX11_passes_113 : decode cX11_passes 113 = .ok (.aload_n 0, 1) := by decide +kernel
theorem dX11_passes_114 : decode cX11_passes 114 = .ok (.invokevirtual 153, 3) := by decide +kernel
theorem dX11_passes_117 : decode cX11_passes 117 = .ok (.aload_n 0, 1) := by decide +kernel
theorem dX11_passes_118 : decode cX11_passes 118 = .ok (.invokevirtual 134, 3) := by decide +kernel
theorem dX11_passes_121 : decode cX11_passes 121 = .ok (.iload_n 1, 1) := by decide +kernel
theorem dX11_passes_122 : decode cX11_passes 122 = .ok (.isub, 1) := by decide +kernel
theorem dX11_passes_123 : decode cX11_passes 123 = .ok (.ireturn, 1) := by decide +kernel
theorem dX11_kinds_0 : decode cX11_kinds 0 = .ok (.iload_n 1, 1) := by decide +kernel
theorem dX11_kinds_1 : decode cX11_kinds 1 = .ok (.invokestatic 156, 3) := by decide +kernel
theorem dX11_kinds_4 : decode cX11_kinds 4 = .ok (.ifCond .eq 13, 3) := by decide +kernel
theorem dX11_kinds_7 : decode cX11_kinds 7 = .ok (.iload_n 2, 1) := by decide +kernel
theorem dX11_kinds_8 : decode cX11_kinds 8 = .ok (.iconst 0, 1) := by decide +kernel
theorem dX11_kinds_9 : decode cX11_kinds 9 = .ok (.bipush 8, 2) := by decide +kernel
theorem dX11_kinds_11 : decode cX11_kinds 11 = .ok (.invokestatic 44, 3) := by decide +kernel
theorem dX11_kinds_14 : decode cX11_kinds 14 = .ok (.ifCond .ne 6, 3) := by decide +kernel
theorem dX11_kinds_17 : decode cX11_kinds 17 = .ok (.ldc 48, 2) := by decide +kernel
theorem dX11_kinds_19 : decode cX11_kinds 19 = .ok (.ireturn, 1) := by decide +kernel
theorem dX11_kinds_20 : decode cX11_kinds 20 = .ok (.iload_n 2, 1) := by decide +kernel
theorem dX11_kinds_21 : decode cX11_kinds 21 = .ok (.bipush 7, 2) := by decide +kernel
theorem dX11_kinds_23 : decode cX11_kinds 23 = .ok (.if_icmp .ne 14, 3) := by decide +kernel
theorem dX11_kinds_26 : decode cX11_kinds 26 = .ok (.aload_n 0, 1) := by decide +kernel
theorem dX11_kinds_27 : decode cX11_kinds 27 = .ok (.iload_n 1, 1) := by decide +kernel
theorem dX11_kinds_28 : decode cX11_kinds 28 = .ok (.invokevirtual 79, 3) := by decide +kernel
theorem dX11_kinds_31 : decode cX11_kinds 31 = .ok (.ifCond .lt 6, 3) := by decide +kernel
theorem dX11_kinds_34 : decode cX11_kinds 34 = .ok (.ldc 159, 2) := by decide +kernel
theorem dX11_kinds_36 : decode cX11_kinds 36 = .ok (.ireturn, 1) := by decide +kernel
theorem dX11_kinds_37 : decode cX11_kinds 37 = .ok (.aload_n 0, 1) := by decide +kernel
theorem dX11_kinds_38 : decode cX11_kinds 38 = .ok (.getfield 7, 3) := by decide +kernel
theorem dX11_kinds_41 : decode cX11_kinds 41 = .ok (.bipush 11, 2) := by decide +kernel
theorem dX11_kinds_43 : decode cX11_kinds 43 = .ok (.iload_n 1, 1) := by decide +kernel
theorem dX11_kinds_44 : decode cX11_kinds 44 = .ok (.iadd, 1) := by decide +kernel
theorem dX11_kinds_45 : decode cX11_kinds 45 = .ok (.iaload, 1) := by decide +kernel
theorem dX11_kinds_46 : decode cX11_kinds 46 = .ok (.istore_n 3, 1) := by decide +kernel
theorem dX11_kinds_47 : decode cX11_kinds 47 = .ok (.aload_n 0, 1) := by decide +kernel
theorem dX11_kinds_48 : decode cX11_kinds 48 = .ok (.getfield 7, 3) := by decide +kernel
theorem dX11_kinds_51 : decode cX11_kinds 51 = .ok (.bipush 11, 2) := by decide +kernel
theorem dX11_kinds_53 : decode cX11_kinds 53 = .ok (.iload_n 1, 1) := by decide +kernel
theorem dX11_kinds_54 : decode cX11_kinds 54 = .ok (.iadd, 1) := by decide +kernel
theorem dX11_kinds_55 : decode cX11_kinds 55 = .ok (.iload_n 2, 1) := by decide +kernel
theorem dX11_kinds_56 : decode cX11_kinds 56 = .ok (.iastore, 1) := by decide +kernel
theorem dX11_kinds_57 : decode cX11_kinds 57 = .ok (.iload_n 3, 1) := by decide +kernel
theorem dX11_kinds_58 : decode cX11_kinds 58 = .ok (.ireturn, 1) := by decide +kernel
theorem dX11_walls_0 : decode cX11_walls 0 = .ok (.iload_n 1, 1) := by decide +kernel
theorem dX11_walls_1 : decode cX11_walls 1 = .ok (.invokestatic 156, 3) := by decide +kernel
theorem dX11_walls_4 : decode cX11_walls 4 = .ok (.ifCond .eq 12, 3) := by decide +kernel
theorem dX11_walls_7 : decode cX11_walls 7 = .ok (.iload_n 2, 1) := by decide +kernel
theorem dX11_walls_8 : decode cX11_walls 8 = .ok (.iconst 0, 1) := by decide +kernel
theorem dX11_walls_9 : decode cX11_walls 9 = .ok (.iconst 3, 1) := by decide +kernel
theorem dX11_walls_10 : decode cX11_walls 10 = .ok (.invokestatic 44, 3) := by decide +kernel
theorem dX11_walls_13 : decode cX11_walls 13 = .ok (.ifCond .ne 6, 3) := by decide +kernel
theorem dX11_walls_16 : decode cX11_walls 16 = .ok (.ldc 48, 2) := by decide +kernel
theorem dX11_walls_18 : decode cX11_walls 18 = .ok (.ireturn, 1) := by decide +kernel
theorem dX11_walls_19 : decode cX11_walls 19 = .ok (.aload_n 0, 1) := by decide +kernel
theorem dX11_walls_20 : decode cX11_walls 20 = .ok (.getfield 7, 3) := by decide +kernel
theorem dX11_walls_23 : decode cX11_walls 23 = .ok (.bipush 75, 2) := by decide +kernel
theorem dX11_walls_25 : decode cX11_walls 25 = .ok (.iload_n 1, 1) := by decide +kernel
theorem dX11_walls_26 : decode cX11_walls 26 = .ok (.iadd, 1) := by decide +kernel
theorem dX11_walls_27 : decode cX11_walls 27 = .ok (.dup2, 1) := by decide +kernel
theorem dX11_walls_28 : decode cX11_walls 28 = .ok (.iaload, 1) := by decide +kernel
theorem dX11_walls_29 : decode cX11_walls 29 = .ok (.iconst 1, 1) := by decide +kernel
theorem dX11_walls_30 : decode cX11_walls 30 = .ok (.iload_n 2, 1) := by decide +kernel
theorem dX11_walls_31 : decode cX11_walls 31 = .ok (.ishl, 1) := by decide +kernel
theorem dX11_walls_32 : decode cX11_walls 32 = .ok (.ixor, 1) := by decide +kernel
theorem dX11_walls_33 : decode cX11_walls 33 = .ok (.iastore, 1) := by decide +kernel
theorem dX11_walls_34 : decode cX11_walls 34 = .ok (.iload_n 1, 1) := by decide +kernel
theorem dX11_walls_35 : decode cX11_walls 35 = .ok (.iload_n 2, 1) := by decide +kernel
theorem dX11_walls_36 : decode cX11_walls 36 = .ok (.invokestatic 76, 3) := by decide +kernel
theorem dX11_walls_39 : decode cX11_walls 39 = .ok (.istore_n 3, 1) := by decide +kernel
theorem dX11_walls_40 : decode cX11_walls 40 = .ok (.iload_n 3, 1) := by decide +kernel
theorem dX11_walls_41 : decode cX11_walls 41 = .ok (.ifCond .lt 22, 3) := by decide +kernel
theorem dX11_walls_44 : decode cX11_walls 44 = .ok (.aload_n 0, 1) := by decide +kernel
theorem dX11_walls_45 : decode cX11_walls 45 = .ok (.getfield 7, 3) := by decide +kernel
theorem dX11_walls_48 : decode cX11_walls 48 = .ok (.bipush 75, 2) := by decide +kernel
theorem dX11_walls_50 : decode cX11_walls 50 = .ok (.iload_n 3, 1) := by decide +kernel
theorem dX11_walls_51 : decode cX11_walls 51 = .ok (.iadd, 1) := by decide +kernel
theorem dX11_walls_52 : decode cX11_walls 52 = .ok (.dup2, 1) := by decide +kernel
theorem dX11_walls_53 : decode cX11_walls 53 = .ok (.iaload, 1) := by decide +kernel
theorem dX11_walls_54 : decode cX11_walls 54 = .ok (.iconst 1, 1) := by decide +kernel
theorem dX11_walls_55 : decode cX11_walls 55 = .ok (.iload_n 2, 1) := by decide +kernel
theorem dX11_walls_56 : decode cX11_walls 56 = .ok (.iconst 2, 1) := by decide +kernel
theorem dX11_walls_57 : decode cX11_walls 57 = .ok (.iadd, 1) := by decide +kernel
theorem dX11_walls_58 : decode cX11_walls 58 = .ok (.iconst 4, 1) := by decide +kernel
theorem dX11_walls_59 : decode cX11_walls 59 = .ok (.irem, 1) := by decide +kernel
theorem dX11_walls_60 : decode cX11_walls 60 = .ok (.ishl, 1) := by decide +kernel
theorem dX11_walls_61 : decode cX11_walls 61 = .ok (.ixor, 1) := by decide +kernel
theorem dX11_walls_62 : decode cX11_walls 62 = .ok (.iastore, 1) := by decide +kernel
theorem dX11_walls_63 : decode cX11_walls 63 = .ok (.aload_n 0, 1) := by decide +kernel
theorem dX11_walls_64 : decode cX11_walls 64 = .ok (.getfield 7, 3) := by decide +kernel
theorem dX11_walls_67 : decode cX11_walls 67 = .ok (.bipush 75, 2) := by decide +kernel
theorem dX11_walls_69 : decode cX11_walls 69 = .ok (.iload_n 1, 1) := by decide +kernel
theorem dX11_walls_70 : decode cX11_walls 70 = .ok (.iadd, 1) := by decide +kernel
theorem dX11_walls_71 : decode cX11_walls 71 = .ok (.iaload, 1) := by decide +kernel
theorem dX11_walls_72 : decode cX11_walls 72 = .ok (.iload_n 2, 1) := by decide +kernel
theorem dX11_walls_73 : decode cX11_walls 73 = .ok (.ishr, 1) := by decide +kernel
theorem dX11_walls_74 : decode cX11_walls 74 = .ok (.iconst 1, 1) := by decide +kernel
theorem dX11_walls_75 : decode cX11_walls 75 = .ok (.iand, 1) := by decide +kernel
theorem dX11_walls_76 : decode cX11_walls 76 = .ok (.ireturn, 1) := by decide +kernel
theorem dX11_comes_0 : decode cX11_comes 0 = .ok (.iload_n 1, 1) := by decide +kernel
theorem dX11_comes_1 : decode cX11_comes 1 = .ok (.invokestatic 156, 3) := by decide +kernel
theorem dX11_comes_4 : decode cX11_comes 4 = .ok (.ifCond .eq 12, 3) := by decide +kernel
theorem dX11_comes_7 : decode cX11_comes 7 = .ok (.iload_n 2, 1) := by decide +kernel
theorem dX11_comes_8 : decode cX11_comes 8 = .ok (.iconst 0, 1) := by decide +kernel
theorem dX11_comes_9 : decode cX11_comes 9 = .ok (.iconst 3, 1) := by decide +kernel
theorem dX11_comes_10 : decode cX11_comes 10 = .ok (.invokestatic 44, 3) := by decide +kernel
theorem dX11_comes_13 : decode cX11_comes 13 = .ok (.ifCond .ne 6, 3) := by decide +kernel
theorem dX11_comes_16 : decode cX11_comes 16 = .ok (.ldc 48, 2) := by decide +kernel
theorem dX11_comes_18 : decode cX11_comes 18 = .ok (.ireturn, 1) := by decide +kernel
theorem dX11_comes_19 : decode cX11_comes 19 = .ok (.aload_n 0, 1) := by decide +kernel
theorem dX11_comes_20 : decode cX11_comes 20 = .ok (.iload_n 1, 1) := by decide +kernel
theorem dX11_comes_21 : decode cX11_comes 21 = .ok (.invokevirtual 124, 3) := by decide +kernel
theorem dX11_comes_24 : decode cX11_comes 24 = .ok (.ifCond .ne 6, 3) := by decide +kernel
theorem dX11_comes_27 : decode cX11_comes 27 = .ok (.ldc 159, 2) := by decide +kernel
theorem dX11_comes_29 : decode cX11_comes 29 = .ok (.ireturn, 1) := by decide +kernel
theorem dX11_comes_30 : decode cX11_comes 30 = .ok (.aload_n 0, 1) := by decide +kernel
theorem dX11_comes_31 : decode cX11_comes 31 = .ok (.getfield 7, 3) := by decide +kernel
theorem dX11_comes_34 : decode cX11_comes 34 = .ok (.iconst 0, 1) := by decide +kernel
theorem dX11_comes_35 : decode cX11_comes 35 = .ok (.iaload, 1) := by decide +kernel
theorem dX11_comes_36 : decode cX11_comes 36 = .ok (.iconst 4, 1) := by decide +kernel
theorem dX11_comes_37 : decode cX11_comes 37 = .ok (.if_icmp .ne 6, 3) := by decide +kernel
theorem dX11_comes_40 : decode cX11_comes 40 = .ok (.ldc 160, 2) := by decide +kernel
theorem dX11_comes_42 : decode cX11_comes 42 = .ok (.ireturn, 1) := by decide +kernel
theorem dX11_comes_43 : decode cX11_comes 43 = .ok (.aload_n 0, 1) := by decide +kernel
theorem dX11_comes_44 : decode cX11_comes 44 = .ok (.getfield 7, 3) := by decide +kernel
theorem dX11_comes_47 : decode cX11_comes 47 = .ok (.iconst 0, 1) := by decide +kernel
theorem dX11_comes_48 : decode cX11_comes 48 = .ok (.iaload, 1) := by decide +kernel
theorem dX11_comes_49 : decode cX11_comes 49 = .ok (.istore_n 3, 1) := by decide +kernel
theorem dX11_comes_50 : decode cX11_comes 50 = .ok (.aload_n 0, 1) := by decide +kernel
theorem dX11_comes_51 : decode cX11_comes 51 = .ok (.getfield 7, 3) := by decide +kernel
theorem dX11_comes_54 : decode cX11_comes 54 = .ok (.iconst 0, 1) := by decide +kernel
theorem dX11_comes_55 : decode cX11_comes 55 = .ok (.dup2, 1) := by decide +kernel
theorem dX11_comes_56 : decode cX11_comes 56 = .ok (.iaload, 1) := by decide +kernel
theorem dX11_comes_57 : decode cX11_comes 57 = .ok (.iconst 1, 1) := by decide +kernel
theorem dX11_comes_58 : decode cX11_comes 58 = .ok (.iadd, 1) := by decide +kernel
theorem dX11_comes_59 : decode cX11_comes 59 = .ok (.iastore, 1) := by decide +kernel
theorem dX11_comes_60 : decode cX11_comes 60 = .ok (.iconst 0, 1) := by decide +kernel
theorem dX11_comes_61 : decode cX11_comes 61 = .ok (.istore 4, 2) := by decide +kernel
theorem dX11_comes_63 : decode cX11_comes 63 = .ok (.iload 4, 2) := by decide +kernel
theorem dX11_comes_65 : decode cX11_comes 65 = .ok (.bipush 17, 2) := by decide +kernel
theorem dX11_comes_67 : decode cX11_comes 67 = .ok (.if_icmp .ge 17, 3) := by decide +kernel
theorem dX11_comes_70 : decode cX11_comes 70 = .ok (.aload_n 0, 1) := by decide +kernel
theorem dX11_comes_71 : decode cX11_comes 71 = .ok (.iload_n 3, 1) := by decide +kernel
theorem dX11_comes_72 : decode cX11_comes 72 = .ok (.iload 4, 2) := by decide +kernel
theorem dX11_comes_74 : decode cX11_comes 74 = .ok (.iconst 0, 1) := by decide +kernel
theorem dX11_comes_75 : decode cX11_comes 75 = .ok (.invokevirtual 60, 3) := by decide +kernel
theorem dX11_comes_78 : decode cX11_comes 78 = .ok (.iinc 4 1, 3) := by decide +kernel
theorem dX11_comes_81 : decode cX11_comes 81 = .ok (.goto (-18), 3) := by decide +kernel
theorem dX11_comes_84 : decode cX11_comes 84 = .ok (.aload_n 0, 1) := by decide +kernel
theorem dX11_comes_85 : decode cX11_comes 85 = .ok (.iload_n 3, 1) := by decide +kernel
theorem dX11_comes_86 : decode cX11_comes 86 = .ok (.iconst 0, 1) := by decide +kernel
theorem dX11_comes_87 : decode cX11_comes 87 = .ok (.iload_n 1, 1) := by decide +kernel
theorem dX11_comes_88 : decode cX11_comes 88 = .ok (.invokevirtual 60, 3) := by decide +kernel
theorem dX11_comes_91 : decode cX11_comes 91 = .ok (.aload_n 0, 1) := by decide +kernel
theorem dX11_comes_92 : decode cX11_comes 92 = .ok (.iload_n 3, 1) := by decide +kernel
theorem dX11_comes_93 : decode cX11_comes 93 = .ok (.iconst 1, 1) := by decide +kernel
theorem dX11_comes_94 : decode cX11_comes 94 = .ok (.iload_n 1, 1) := by decide +kernel
theorem dX11_comes_95 : decode cX11_comes 95 = .ok (.invokevirtual 60, 3) := by decide +kernel
theorem dX11_comes_98 : decode cX11_comes 98 = .ok (.aload_n 0, 1) := by decide +kernel
theorem dX11_comes_99 : decode cX11_comes 99 = .ok (.iload_n 3, 1) := by decide +kernel
theorem dX11_comes_100 : decode cX11_comes 100 = .ok (.iconst 2, 1) := by decide +kernel
theorem dX11_comes_101 : decode cX11_comes 101 = .ok (.iload_n 2, 1) := by decide +kernel
theorem dX11_comes_102 : decode cX11_comes 102 = .ok (.invokevirtual 60, 3) := by decide +kernel
theorem dX11_comes_105 : decode cX11_comes 105 = .ok (.iload_n 3, 1) := by decide +kernel
theorem dX11_comes_106 : decode cX11_comes 106 = .ok (.ireturn, 1) := by decide +kernel
theorem dX11_withCards_0 : decode cX11_withCards 0 = .ok (.iconst 0, 1) := by decide +kernel
theorem dX11_withCards_1 : decode cX11_withCards 1 = .ok (.istore_n 2, 1) := by decide +kernel
theorem dX11_withCards_2 : decode cX11_withCards 2 = .ok (.iconst 0, 1) := by decide +kernel
theorem dX11_withCards_3 : decode cX11_withCards 3 = .ok (.istore_n 3, 1) := by decide +kernel
theorem dX11_withCards_4 : decode cX11_withCards 4 = .ok (.iload_n 3, 1) := by decide +kernel
theorem dX11_withCards_5 : decode cX11_withCards 5 = .ok (.iconst 5, 1) := by decide +kernel
theorem dX11_withCards_6 : decode cX11_withCards 6 = .ok (.if_icmp .ge 28, 3) := by decide +kernel
theorem dX11_withCards_9 : decode cX11_withCards 9 = .ok (.iload_n 2, 1) := by decide +kernel
theorem dX11_withCards_10 : decode cX11_withCards 10 = .ok (.aload_n 0, 1) := by decide +kernel
theorem dX11_withCards_11 : decode cX11_withCards 11 = .ok (.iload_n 1, 1) := by decide +kernel
theorem dX11_withCards_12 : decode cX11_withCards 12 = .ok (.iload_n 3, 1) := by decide +kernel
theorem dX11_withCards_13 : decode cX11_withCards 13 = .ok (.invokevirtual 102, 3) := by decide +kernel
theorem dX11_withCards_16 : decode cX11_withCards 16 = .ok (.ifCond .le 9, 3) := by decide +kernel
theorem dX11_withCards_19 : decode cX11_withCards 19 = .ok (.iconst 1, 1) := by decide +kernel
theorem dX11_withCards_20 : decode cX11_withCards 20 = .ok (.iload_n 3, 1) := by decide +kernel
theorem dX11_withCards_21 : decode cX11_withCards 21 = .ok (.ishl, 1) := by decide +kernel
theorem dX11_withCards_22 : decode cX11_withCards 22 = .ok (.goto 4, 3) := by decide +kernel
theorem dX11_withCards_25 : decode cX11_withCards 25 = .ok (.iconst 0, 1) := by decide +kernel
theorem dX11_withCards_26 : decode cX11_withCards 26 = .ok (.ior, 1) := by decide +kernel
theorem dX11_withCards_27 : decode cX11_withCards 27 = .ok (.istore_n 2, 1) := by decide +kernel
theorem dX11_withCards_28 : decode cX11_withCards 28 = .ok (.iinc 3 1, 3) := by decide +kernel
theorem dX11_withCards_31 : decode cX11_withCards 31 = .ok (.goto (-27), 3) := by decide +kernel
theorem dX11_withCards_34 : decode cX11_withCards 34 = .ok (.iload_n 2, 1) := by decide +kernel
theorem dX11_withCards_35 : decode cX11_withCards 35 = .ok (.ireturn, 1) := by decide +kernel
theorem dX11_locked_0 : decode cX11_locked 0 = .ok (.iconst 0, 1) := by decide +kernel
theorem dX11_locked_1 : decode cX11_locked 1 = .ok (.istore_n 2, 1) := by decide +kernel
theorem dX11_locked_2 : decode cX11_locked 2 = .ok (.iconst 0, 1) := by decide +kernel
theorem dX11_locked_3 : decode cX11_locked 3 = .ok (.istore_n 3, 1) := by decide +kernel
theorem dX11_locked_4 : decode cX11_locked 4 = .ok (.iload_n 3, 1) := by decide +kernel
theorem dX11_locked_5 : decode cX11_locked 5 = .ok (.iconst 5, 1) := by decide +kernel
theorem dX11_locked_6 : decode cX11_locked 6 = .ok (.if_icmp .ge 28, 3) := by decide +kernel
theorem dX11_locked_9 : decode cX11_locked 9 = .ok (.iload_n 2, 1) := by decide +kernel
theorem dX11_locked_10 : decode cX11_locked 10 = .ok (.aload_n 0, 1) := by decide +kernel
theorem dX11_locked_11 : decode cX11_locked 11 = .ok (.iload_n 1, 1) := by decide +kernel
theorem dX11_locked_12 : decode cX11_locked 12 = .ok (.iload_n 3, 1) := by decide +kernel
theorem dX11_locked_13 : decode cX11_locked 13 = .ok (.invokevirtual 121, 3) := by decide +kernel
theorem dX11_locked_16 : decode cX11_locked 16 = .ok (.ifCond .eq 9, 3) := by decide +kernel
theorem dX11_locked_19 : decode cX11_locked 19 = .ok (.iconst 1, 1) := by decide +kernel
theorem dX11_locked_20 : decode cX11_locked 20 = .ok (.iload_n 3, 1) := by decide +kernel
theorem dX11_locked_21 : decode cX11_locked 21 = .ok (.ishl, 1) := by decide +kernel
theorem dX11_locked_22 : decode cX11_locked 22 = .ok (.goto 4, 3) := by decide +kernel
theorem dX11_locked_25 : decode cX11_locked 25 = .ok (.iconst 0, 1) := by decide +kernel
theorem dX11_locked_26 : decode cX11_locked 26 = .ok (.ior, 1) := by decide +kernel
theorem dX11_locked_27 : decode cX11_locked 27 = .ok (.istore_n 2, 1) := by decide +kernel
theorem dX11_locked_28 : decode cX11_locked 28 = .ok (.iinc 3 1, 3) := by decide +kernel
theorem dX11_locked_31 : decode cX11_locked 31 = .ok (.goto (-27), 3) := by decide +kernel
theorem dX11_locked_34 : decode cX11_locked 34 = .ok (.iload_n 2, 1) := by decide +kernel
theorem dX11_locked_35 : decode cX11_locked 35 = .ok (.ireturn, 1) := by decide +kernel
theorem dX11_ones_0 : decode cX11_ones 0 = .ok (.iconst 0, 1) := by decide +kernel
theorem dX11_ones_1 : decode cX11_ones 1 = .ok (.istore_n 1, 1) := by decide +kernel
theorem dX11_ones_2 : decode cX11_ones 2 = .ok (.iconst 0, 1) := by decide +kernel
theorem dX11_ones_3 : decode cX11_ones 3 = .ok (.istore_n 2, 1) := by decide +kernel
theorem dX11_ones_4 : decode cX11_ones 4 = .ok (.iload_n 2, 1) := by decide +kernel
theorem dX11_ones_5 : decode cX11_ones 5 = .ok (.iconst 5, 1) := by decide +kernel
theorem dX11_ones_6 : decode cX11_ones 6 = .ok (.if_icmp .ge 17, 3) := by decide +kernel
theorem dX11_ones_9 : decode cX11_ones 9 = .ok (.iload_n 1, 1) := by decide +kernel
theorem dX11_ones_10 : decode cX11_ones 10 = .ok (.iload_n 0, 1) := by decide +kernel
theorem dX11_ones_11 : decode cX11_ones 11 = .ok (.iload_n 2, 1) := by decide +kernel
theorem dX11_ones_12 : decode cX11_ones 12 = .ok (.ishr, 1) := by decide +kernel
theorem dX11_ones_13 : decode cX11_ones 13 = .ok (.iconst 1, 1) := by decide +kernel
theorem dX11_ones_14 : decode cX11_ones 14 = .ok (.iand, 1) := by decide +kernel
theorem dX11_ones_15 : decode cX11_ones 15 = .ok (.iadd, 1) := by decide +kernel
theorem dX11_ones_16 : decode cX11_ones 16 = .ok (.istore_n 1, 1) := by decide +kernel
theorem dX11_ones_17 : decode cX11_ones 17 = .ok (.iinc 2 1, 3) := by decide +kernel
theorem dX11_ones_20 : decode cX11_ones 20 = .ok (.goto (-16), 3) := by decide +kernel
theorem dX11_ones_23 : decode cX11_ones 23 = .ok (.iload_n 1, 1) := by decide +kernel
theorem dX11_ones_24 : decode cX11_ones 24 = .ok (.ireturn, 1) := by decide +kernel
theorem dX11_cards_0 : decode cX11_cards 0 = .ok (.aload_n 0, 1) := by decide +kernel
theorem dX11_cards_1 : decode cX11_cards 1 = .ok (.iload_n 1, 1) := by decide +kernel
theorem dX11_cards_2 : decode cX11_cards 2 = .ok (.invokevirtual 161, 3) := by decide +kernel
theorem dX11_cards_5 : decode cX11_cards 5 = .ok (.ifCond .eq 34, 3) := by decide +kernel
theorem dX11_cards_8 : decode cX11_cards 8 = .ok (.iload_n 2, 1) := by decide +kernel
theorem dX11_cards_9 : decode cX11_cards 9 = .ok (.iconst 0, 1) := by decide +kernel
theorem dX11_cards_10 : decode cX11_cards 10 = .ok (.iconst 4, 1) := by decide +kernel
theorem dX11_cards_11 : decode cX11_cards 11 = .ok (.invokestatic 44, 3) := by decide +kernel
theorem dX11_cards_14 : decode cX11_cards 14 = .ok (.ifCond .eq 25, 3) := by decide +kernel
theorem dX11_cards_17 : decode cX11_cards 17 = .ok (.iload_n 3, 1) := by decide +kernel
theorem dX11_cards_18 : decode cX11_cards 18 = .ok (.iconst 0, 1) := by decide +kernel
theorem dX11_cards_19 : decode cX11_cards 19 = .ok (.bipush 6, 2) := by decide +kernel
theorem dX11_cards_21 : decode cX11_cards 21 = .ok (.invokestatic 44, 3) := by decide +kernel
theorem dX11_cards_24 : decode cX11_cards 24 = .ok (.ifCond .eq 15, 3) := by decide +kernel
theorem dX11_cards_27 : decode cX11_cards 27 = .ok (.iload 4, 2) := by decide +kernel
theorem dX11_cards_29 : decode cX11_cards 29 = .ok (.iconst 1, 1) := by decide +kernel
theorem dX11_cards_30 : decode cX11_cards 30 = .ok (.sipush 999, 3) := by decide +kernel
theorem dX11_cards_33 : decode cX11_cards 33 = .ok (.invokestatic 44, 3) := by decide +kernel
theorem dX11_cards_36 : decode cX11_cards 36 = .ok (.ifCond .ne 6, 3) := by decide +kernel
theorem dX11_cards_39 : decode cX11_cards 39 = .ok (.ldc 48, 2) := by decide +kernel
theorem dX11_cards_41 : decode cX11_cards 41 = .ok (.ireturn, 1) := by decide +kernel
theorem dX11_cards_42 : decode cX11_cards 42 = .ok (.aload_n 0, 1) := by decide +kernel
theorem dX11_cards_43 : decode cX11_cards 43 = .ok (.iload_n 1, 1) := by decide +kernel
theorem dX11_cards_44 : decode cX11_cards 44 = .ok (.invokevirtual 86, 3) := by decide +kernel
theorem dX11_cards_47 : decode cX11_cards 47 = .ok (.ifCond .ne 22, 3) := by decide +kernel
theorem dX11_cards_50 : decode cX11_cards 50 = .ok (.aload_n 0, 1) := by decide +kernel
theorem dX11_cards_51 : decode cX11_cards 51 = .ok (.iload_n 1, 1) := by decide +kernel
theorem dX11_cards_52 : decode cX11_cards 52 = .ok (.iload_n 2, 1) := by decide +kernel
theorem dX11_cards_53 : decode cX11_cards 53 = .ok (.invokevirtual 121, 3) := by decide +kernel
theorem dX11_cards_56 : decode cX11_cards 56 = .ok (.ifCond .ne 13, 3) := by decide +kernel
theorem dX11_cards_59 : decode cX11_cards 59 = .ok (.iload_n 2, 1) := by decide +kernel
theorem dX11_cards_60 : decode cX11_cards 60 = .ok (.aload_n 0, 1) := by decide +kernel
theorem dX11_cards_61 : decode cX11_cards 61 = .ok (.getfield 7, 3) := by decide +kernel
theorem dX11_cards_64 : decode cX11_cards 64 = .ok (.iconst 1, 1) := by decide +kernel
theorem dX11_cards_65 : decode cX11_cards 65 = .ok (.iaload, 1) := by decide +kernel
theorem dX11_cards_66 : decode cX11_cards 66 = .ok (.if_icmp .ge 6, 3) := by decide +kernel
theorem dX11_cards_69 : decode cX11_cards 69 = .ok (.ldc 159, 2) := by decide +kernel
theorem dX11_cards_71 : decode cX11_cards 71 = .ok (.ireturn, 1) := by decide +kernel
theorem dX11_cards_72 : decode cX11_cards 72 = .ok (.aload_n 0, 1) := by decide +kernel
theorem dX11_cards_73 : decode cX11_cards 73 = .ok (.iload_n 1, 1) := by decide +kernel
theorem dX11_cards_74 : decode cX11_cards 74 = .ok (.bipush 7, 2) := by decide +kernel
theorem dX11_cards_76 : decode cX11_cards 76 = .ok (.iconst 2, 1) := by decide +kernel
theorem dX11_cards_77 : decode cX11_cards 77 = .ok (.iload_n 2, 1) := by decide +kernel
theorem dX11_cards_78 : decode cX11_cards 78 = .ok (.imul, 1) := by decide +kernel
theorem dX11_cards_79 : decode cX11_cards 79 = .ok (.iadd, 1) := by decide +kernel
theorem dX11_cards_80 : decode cX11_cards 80 = .ok (.iload_n 3, 1) := by decide +kernel
theorem dX11_cards_81 : decode cX11_cards 81 = .ok (.invokevirtual 60, 3) := by decide +kernel
theorem dX11_cards_84 : decode cX11_cards 84 = .ok (.aload_n 0, 1) := by decide +kernel
theorem dX11_cards_85 : decode cX11_cards 85 = .ok (.iload_n 1, 1) := by decide +kernel
theorem dX11_cards_86 : decode cX11_cards 86 = .ok (.bipush 7, 2) := by decide +kernel
theorem dX11_cards_88 : decode cX11_cards 88 = .ok (.iconst 2, 1) := by decide +kernel
theorem dX11_cards_89 : decode cX11_cards 89 = .ok (.iload_n 2, 1) := by decide +kernel
theorem dX11_cards_90 : decode cX11_cards 90 = .ok (.imul, 1) := by decide +kernel
theorem dX11_cards_91 : decode cX11_cards 91 = .ok (.iadd, 1) := by decide +kernel
theorem dX11_cards_92 : decode cX11_cards 92 = .ok (.iconst 1, 1) := by decide +kernel
theorem dX11_cards_93 : decode cX11_cards 93 = .ok (.iadd, 1) := by decide +kernel
theorem dX11_cards_94 : decode cX11_cards 94 = .ok (.iload 4, 2) := by decide +kernel
theorem dX11_cards_96 : decode cX11_cards 96 = .ok (.invokevirtual 60, 3) := by decide +kernel
theorem dX11_cards_99 : decode cX11_cards 99 = .ok (.aload_n 0, 1) := by decide +kernel
theorem dX11_cards_100 : decode cX11_cards 100 = .ok (.iload_n 1, 1) := by decide +kernel
theorem dX11_cards_101 : decode cX11_cards 101 = .ok (.invokevirtual 164, 3) := by decide +kernel
theorem dX11_cards_104 : decode cX11_cards 104 = .ok (.invokestatic 167, 3) := by decide +kernel
theorem dX11_cards_107 : decode cX11_cards 107 = .ok (.ireturn, 1) := by decide +kernel
theorem dX11_phases_0 : decode cX11_phases 0 = .ok (.aload_n 0, 1) := by decide +kernel
theorem dX11_phases_1 : decode cX11_phases 1 = .ok (.getfield 7, 3) := by decide +kernel
theorem dX11_phases_4 : decode cX11_phases 4 = .ok (.iconst 0, 1) := by decide +kernel
theorem dX11_phases_5 : decode cX11_phases 5 = .ok (.iaload, 1) := by decide +kernel
theorem dX11_phases_6 : decode cX11_phases 6 = .ok (.ifCond .ne 8, 3) := by decide +kernel
theorem dX11_phases_9 : decode cX11_phases 9 = .ok (.ldc 159, 2) := by decide +kernel
theorem dX11_phases_11 : decode cX11_phases 11 = .ok (.goto 7, 3) := by decide +kernel
theorem dX11_phases_14 : decode cX11_phases 14 = .ok (.aload_n 0, 1) := by decide +kernel
theorem dX11_phases_15 : decode cX11_phases 15 = .ok (.invokevirtual 170, 3) := by decide +kernel
theorem dX11_phases_18 : decode cX11_phases 18 = .ok (.ireturn, 1) := by decide +kernel
theorem dX11_kind_0 : decode cX11_kind 0 = .ok (.aload_n 0, 1) := by decide +kernel
theorem dX11_kind_1 : decode cX11_kind 1 = .ok (.invokevirtual 173, 3) := by decide +kernel
theorem dX11_kind_4 : decode cX11_kind 4 = .ok (.aload_n 0, 1) := by decide +kernel
theorem dX11_kind_5 : decode cX11_kind 5 = .ok (.aload_n 0, 1) := by decide +kernel
theorem dX11_kind_6 : decode cX11_kind 6 = .ok (.iload_n 1, 1) := by decide +kernel
theorem dX11_kind_7 : decode cX11_kind 7 = .ok (.iload_n 2, 1) := by decide +kernel
theorem dX11_kind_8 : decode cX11_kind 8 = .ok (.invokevirtual 176, 3) := by decide +kernel
theorem dX11_kind_11 : decode cX11_kind 11 = .ok (.invokevirtual 179, 3) := by decide +kernel
theorem dX11_kind_14 : decode cX11_kind 14 = .ok (.ireturn, 1) := by decide +kernel
theorem dX11_wall_0 : decode cX11_wall 0 = .ok (.aload_n 0, 1) := by decide +kernel
theorem dX11_wall_1 : decode cX11_wall 1 = .ok (.invokevirtual 173, 3) := by decide +kernel
theorem dX11_wall_4 : decode cX11_wall 4 = .ok (.aload_n 0, 1) := by decide +kernel
theorem dX11_wall_5 : decode cX11_wall 5 = .ok (.aload_n 0, 1) := by decide +kernel
theorem dX11_wall_6 : decode cX11_wall 6 = .ok (.iload_n 1, 1) := by decide +kernel
theorem dX11_wall_7 : decode cX11_wall 7 = .ok (.iload_n 2, 1) := by decide +kernel
theorem dX11_wall_8 : decode cX11_wall 8 = .ok (.invokevirtual 182, 3) := by decide +kernel
theorem dX11_wall_11 : decode cX11_wall 11 = .ok (.invokevirtual 179, 3) := by decide +kernel
theorem dX11_wall_14 : decode cX11_wall 14 = .ok (.ireturn, 1) := by decide +kernel
theorem dX11_flag_0 : decode cX11_flag 0 = .ok (.aload_n 0, 1) := by decide +kernel
theorem dX11_flag_1 : decode cX11_flag 1 = .ok (.invokevirtual 173, 3) := by decide +kernel
theorem dX11_flag_4 : decode cX11_flag 4 = .ok (.iload_n 1, 1) := by decide +kernel
theorem dX11_flag_5 : decode cX11_flag 5 = .ok (.iconst 0, 1) := by decide +kernel
theorem dX11_flag_6 : decode cX11_flag 6 = .ok (.iconst 3, 1) := by decide +kernel
theorem dX11_flag_7 : decode cX11_flag 7 = .ok (.invokestatic 44, 3) := by decide +kernel
theorem dX11_flag_10 : decode cX11_flag 10 = .ok (.ifCond .eq 10, 3) := by decide +kernel
theorem dX11_flag_13 : decode cX11_flag 13 = .ok (.iload_n 2, 1) := by decide +kernel
theorem dX11_flag_14 : decode cX11_flag 14 = .ok (.invokestatic 156, 3) := by decide +kernel
theorem dX11_flag_17 : decode cX11_flag 17 = .ok (.ifCond .ne 6, 3) := by decide +kernel
theorem dX11_flag_20 : decode cX11_flag 20 = .ok (.ldc 48, 2) := by decide +kernel
theorem dX11_flag_22 : decode cX11_flag 22 = .ok (.ireturn, 1) := by decide +kernel
theorem dX11_flag_23 : decode cX11_flag 23 = .ok (.iload_n 1, 1) := by decide +kernel
theorem dX11_flag_24 : decode cX11_flag 24 = .ok (.aload_n 0, 1) := by decide +kernel
theorem dX11_flag_25 : decode cX11_flag 25 = .ok (.getfield 7, 3) := by decide +kernel
theorem dX11_flag_28 : decode cX11_flag 28 = .ok (.iconst 3, 1) := by decide +kernel
theorem dX11_flag_29 : decode cX11_flag 29 = .ok (.iaload, 1) := by decide +kernel
theorem dX11_flag_30 : decode cX11_flag 30 = .ok (.if_icmp .le 6, 3) := by decide +kernel
theorem dX11_flag_33 : decode cX11_flag 33 = .ok (.ldc 159, 2) := by decide +kernel
theorem dX11_flag_35 : decode cX11_flag 35 = .ok (.ireturn, 1) := by decide +kernel
theorem dX11_flag_36 : decode cX11_flag 36 = .ok (.aload_n 0, 1) := by decide +kernel
theorem dX11_flag_37 : decode cX11_flag 37 = .ok (.getfield 7, 3) := by decide +kernel
theorem dX11_flag_40 : decode cX11_flag 40 = .ok (.iconst 3, 1) := by decide +kernel
theorem dX11_flag_41 : decode cX11_flag 41 = .ok (.iload_n 1, 1) := by decide +kernel
theorem dX11_flag_42 : decode cX11_flag 42 = .ok (.aload_n 0, 1) := by decide +kernel
theorem dX11_flag_43 : decode cX11_flag 43 = .ok (.getfield 7, 3) := by decide +kernel
theorem dX11_flag_46 : decode cX11_flag 46 = .ok (.iconst 3, 1) := by decide +kernel
theorem dX11_flag_47 : decode cX11_flag 47 = .ok (.iaload, 1) := by decide +kernel
theorem dX11_flag_48 : decode cX11_flag 48 = .ok (.if_icmp .ne 14, 3) := by decide +kernel
theorem dX11_flag_51 : decode cX11_flag 51 = .ok (.aload_n 0, 1) := by decide +kernel
theorem dX11_flag_52 : decode cX11_flag 52 = .ok (.getfield 7, 3) := by decide +kernel
theorem dX11_flag_55 : decode cX11_flag 55 = .ok (.iconst 3, 1) := by decide +kernel
theorem dX11_flag_56 : decode cX11_flag 56 = .ok (.iaload, 1) := by decide +kernel
theorem dX11_flag_57 : decode cX11_flag 57 = .ok (.iconst 1, 1) := by decide +kernel
theorem dX11_flag_58 : decode cX11_flag 58 = .ok (.iadd, 1) := by decide +kernel
theorem dX11_flag_59 : decode cX11_flag 59 = .ok (.goto 9, 3) := by decide +kernel
theorem dX11_flag_62 : decode cX11_flag 62 = .ok (.aload_n 0, 1) := by decide +kernel
theorem dX11_flag_63 : decode cX11_flag 63 = .ok (.getfield 7, 3) := by decide +kernel
theorem dX11_flag_66 : decode cX11_flag 66 = .ok (.iconst 3, 1) := by decide +kernel
theorem dX11_flag_67 : decode cX11_flag 67 = .ok (.iaload, 1) := by decide +kernel
theorem dX11_flag_68 : decode cX11_flag 68 = .ok (.iastore, 1) := by decide +kernel
theorem dX11_flag_69 : decode cX11_flag 69 = .ok (.aload_n 0, 1) := by decide +kernel
theorem dX11_flag_70 : decode cX11_flag 70 = .ok (.getfield 7, 3) := by decide +kernel
theorem dX11_flag_73 : decode cX11_flag 73 = .ok (.bipush 7, 2) := by decide +kernel
theorem dX11_flag_75 : decode cX11_flag 75 = .ok (.iload_n 1, 1) := by decide +kernel
theorem dX11_flag_76 : decode cX11_flag 76 = .ok (.iadd, 1) := by decide +kernel
theorem dX11_flag_77 : decode cX11_flag 77 = .ok (.iload_n 2, 1) := by decide +kernel
theorem dX11_flag_78 : decode cX11_flag 78 = .ok (.iastore, 1) := by decide +kernel
theorem dX11_flag_79 : decode cX11_flag 79 = .ok (.aload_n 0, 1) := by decide +kernel
theorem dX11_flag_80 : decode cX11_flag 80 = .ok (.aload_n 0, 1) := by decide +kernel
theorem dX11_flag_81 : decode cX11_flag 81 = .ok (.getfield 7, 3) := by decide +kernel
theorem dX11_flag_84 : decode cX11_flag 84 = .ok (.iconst 3, 1) := by decide +kernel
theorem dX11_flag_85 : decode cX11_flag 85 = .ok (.iaload, 1) := by decide +kernel
theorem dX11_flag_86 : decode cX11_flag 86 = .ok (.invokevirtual 179, 3) := by decide +kernel
theorem dX11_flag_89 : decode cX11_flag 89 = .ok (.ireturn, 1) := by decide +kernel
theorem dX11_cart_0 : decode cX11_cart 0 = .ok (.aload_n 0, 1) := by decide +kernel
theorem dX11_cart_1 : decode cX11_cart 1 = .ok (.invokevirtual 173, 3) := by decide +kernel
theorem dX11_cart_4 : decode cX11_cart 4 = .ok (.aload_n 0, 1) := by decide +kernel
theorem dX11_cart_5 : decode cX11_cart 5 = .ok (.aload_n 0, 1) := by decide +kernel
theorem dX11_cart_6 : decode cX11_cart 6 = .ok (.iload_n 1, 1) := by decide +kernel
theorem dX11_cart_7 : decode cX11_cart 7 = .ok (.iload_n 2, 1) := by decide +kernel
theorem dX11_cart_8 : decode cX11_cart 8 = .ok (.invokevirtual 185, 3) := by decide +kernel
theorem dX11_cart_11 : decode cX11_cart 11 = .ok (.invokevirtual 179, 3) := by decide +kernel
theorem dX11_cart_14 : decode cX11_cart 14 = .ok (.ireturn, 1) := by decide +kernel
theorem dX11_card_0 : decode cX11_card 0 = .ok (.aload_n 0, 1) := by decide +kernel
theorem dX11_card_1 : decode cX11_card 1 = .ok (.invokevirtual 173, 3) := by decide +kernel
theorem dX11_card_4 : decode cX11_card 4 = .ok (.aload_n 0, 1) := by decide +kernel
theorem dX11_card_5 : decode cX11_card 5 = .ok (.aload_n 0, 1) := by decide +kernel
theorem dX11_card_6 : decode cX11_card 6 = .ok (.iload_n 1, 1) := by decide +kernel
theorem dX11_card_7 : decode cX11_card 7 = .ok (.iload_n 2, 1) := by decide +kernel
theorem dX11_card_8 : decode cX11_card 8 = .ok (.iload_n 3, 1) := by decide +kernel
theorem dX11_card_9 : decode cX11_card 9 = .ok (.iload 4, 2) := by decide +kernel
theorem dX11_card_11 : decode cX11_card 11 = .ok (.invokevirtual 188, 3) := by decide +kernel
theorem dX11_card_14 : decode cX11_card 14 = .ok (.invokevirtual 179, 3) := by decide +kernel
theorem dX11_card_17 : decode cX11_card 17 = .ok (.ireturn, 1) := by decide +kernel
theorem dX11_damage_0 : decode cX11_damage 0 = .ok (.aload_n 0, 1) := by decide +kernel
theorem dX11_damage_1 : decode cX11_damage 1 = .ok (.invokevirtual 173, 3) := by decide +kernel
theorem dX11_damage_4 : decode cX11_damage 4 = .ok (.aload_n 0, 1) := by decide +kernel
theorem dX11_damage_5 : decode cX11_damage 5 = .ok (.iload_n 1, 1) := by decide +kernel
theorem dX11_damage_6 : decode cX11_damage 6 = .ok (.invokevirtual 161, 3) := by decide +kernel
theorem dX11_damage_9 : decode cX11_damage 9 = .ok (.ifCond .eq 14, 3) := by decide +kernel
theorem dX11_damage_12 : decode cX11_damage 12 = .ok (.iload_n 2, 1) := by decide +kernel
theorem dX11_damage_13 : decode cX11_damage 13 = .ok (.bipush (-9), 2) := by decide +kernel
theorem dX11_damage_15 : decode cX11_damage 15 = .ok (.bipush 9, 2) := by decide +kernel
theorem dX11_damage_17 : decode cX11_damage 17 = .ok (.invokestatic 44, 3) := by decide +kernel
theorem dX11_damage_20 : decode cX11_damage 20 = .ok (.ifCond .ne 6, 3) := by decide +kernel
theorem dX11_damage_23 : decode cX11_damage 23 = .ok (.ldc 48, 2) := by decide +kernel
theorem dX11_damage_25 : decode cX11_damage 25 = .ok (.ireturn, 1) := by decide +kernel
theorem dX11_damage_26 : decode cX11_damage 26 = .ok (.aload_n 0, 1) := by decide +kernel
theorem dX11_damage_27 : decode cX11_damage 27 = .ok (.iload_n 1, 1) := by decide +kernel
theorem dX11_damage_28 : decode cX11_damage 28 = .ok (.invokevirtual 86, 3) := by decide +kernel
theorem dX11_damage_31 : decode cX11_damage 31 = .ok (.ifCond .eq 6, 3) := by decide +kernel
theorem dX11_damage_34 : decode cX11_damage 34 = .ok (.ldc 159, 2) := by decide +kernel
theorem dX11_damage_36 : decode cX11_damage 36 = .ok (.ireturn, 1) := by decide +kernel
theorem dX11_damage_37 : decode cX11_damage 37 = .ok (.aload_n 0, 1) := by decide +kernel
theorem dX11_damage_38 : decode cX11_damage 38 = .ok (.iload_n 1, 1) := by decide +kernel
theorem dX11_damage_39 : decode cX11_damage 39 = .ok (.iconst 3, 1) := by decide +kernel
theorem dX11_damage_40 : decode cX11_damage 40 = .ok (.invokevirtual 56, 3) := by decide +kernel
theorem dX11_damage_43 : decode cX11_damage 43 = .ok (.iload_n 2, 1) := by decide +kernel
theorem dX11_damage_44 : decode cX11_damage 44 = .ok (.iadd, 1) := by decide +kernel
theorem dX11_damage_45 : decode cX11_damage 45 = .ok (.istore_n 3, 1) := by decide +kernel
theorem dX11_damage_46 : decode cX11_damage 46 = .ok (.iload_n 3, 1) := by decide +kernel
theorem dX11_damage_47 : decode cX11_damage 47 = .ok (.ifCond .ge 7, 3) := by decide +kernel
theorem dX11_damage_50 : decode cX11_damage 50 = .ok (.iconst 0, 1) := by decide +kernel
theorem dX11_damage_51 : decode cX11_damage 51 = .ok (.goto 15, 3) := by decide +kernel
theorem dX11_damage_54 : decode cX11_damage 54 = .ok (.iload_n 3, 1) := by decide +kernel
theorem dX11_damage_55 : decode cX11_damage 55 = .ok (.bipush 9, 2) := by decide +kernel
theorem dX11_damage_57 : decode cX11_damage 57 = .ok (.if_icmp .le 8, 3) := by decide +kernel
theorem dX11_damage_60 : decode cX11_damage 60 = .ok (.bipush 9, 2) := by decide +kernel
theorem dX11_damage_62 : decode cX11_damage 62 = .ok (.goto 4, 3) := by decide +kernel
theorem dX11_damage_65 : decode cX11_damage 65 = .ok (.iload_n 3, 1) := by decide +kernel
theorem dX11_damage_66 : decode cX11_damage 66 = .ok (.istore_n 3, 1) := by decide +kernel
theorem dX11_damage_67 : decode cX11_damage 67 = .ok (.aload_n 0, 1) := by decide +kernel
theorem dX11_damage_68 : decode cX11_damage 68 = .ok (.iload_n 1, 1) := by decide +kernel
theorem dX11_damage_69 : decode cX11_damage 69 = .ok (.iconst 3, 1) := by decide +kernel
theorem dX11_damage_70 : decode cX11_damage 70 = .ok (.iload_n 3, 1) := by decide +kernel
theorem dX11_damage_71 : decode cX11_damage 71 = .ok (.invokevirtual 60, 3) := by decide +kernel
theorem dX11_damage_74 : decode cX11_damage 74 = .ok (.aload_n 0, 1) := by decide +kernel
theorem dX11_damage_75 : decode cX11_damage 75 = .ok (.iload_n 3, 1) := by decide +kernel
theorem dX11_damage_76 : decode cX11_damage 76 = .ok (.invokevirtual 179, 3) := by decide +kernel
theorem dX11_damage_79 : decode cX11_damage 79 = .ok (.ireturn, 1) := by decide +kernel
theorem dX11_phase_0 : decode cX11_phase 0 = .ok (.aload_n 0, 1) := by decide +kernel
theorem dX11_phase_1 : decode cX11_phase 1 = .ok (.invokevirtual 173, 3) := by decide +kernel
theorem dX11_phase_4 : decode cX11_phase 4 = .ok (.aload_n 0, 1) := by decide +kernel
theorem dX11_phase_5 : decode cX11_phase 5 = .ok (.aload_n 0, 1) := by decide +kernel
theorem dX11_phase_6 : decode cX11_phase 6 = .ok (.invokevirtual 192, 3) := by decide +kernel
theorem dX11_phase_9 : decode cX11_phase 9 = .ok (.invokevirtual 179, 3) := by decide +kernel
theorem dX11_phase_12 : decode cX11_phase 12 = .ok (.ireturn, 1) := by decide +kernel
theorem dX11_round_0 : decode cX11_round 0 = .ok (.aload_n 0, 1) := by decide +kernel
theorem dX11_round_1 : decode cX11_round 1 = .ok (.invokevirtual 173, 3) := by decide +kernel
theorem dX11_round_4 : decode cX11_round 4 = .ok (.aload_n 0, 1) := by decide +kernel
theorem dX11_round_5 : decode cX11_round 5 = .ok (.getfield 7, 3) := by decide +kernel
theorem dX11_round_8 : decode cX11_round 8 = .ok (.iconst 0, 1) := by decide +kernel
theorem dX11_round_9 : decode cX11_round 9 = .ok (.iaload, 1) := by decide +kernel
theorem dX11_round_10 : decode cX11_round 10 = .ok (.ifCond .ne 6, 3) := by decide +kernel
theorem dX11_round_13 : decode cX11_round 13 = .ok (.ldc 159, 2) := by decide +kernel
theorem dX11_round_15 : decode cX11_round 15 = .ok (.ireturn, 1) := by decide +kernel
theorem dX11_round_16 : decode cX11_round 16 = .ok (.aload_n 0, 1) := by decide +kernel
theorem dX11_round_17 : decode cX11_round 17 = .ok (.invokevirtual 170, 3) := by decide +kernel
theorem dX11_round_20 : decode cX11_round 20 = .ok (.istore_n 1, 1) := by decide +kernel
theorem dX11_round_21 : decode cX11_round 21 = .ok (.aload_n 0, 1) := by decide +kernel
theorem dX11_round_22 : decode cX11_round 22 = .ok (.getfield 7, 3) := by decide +kernel
theorem dX11_round_25 : decode cX11_round 25 = .ok (.iconst 1, 1) := by decide +kernel
theorem dX11_round_26 : decode cX11_round 26 = .ok (.iaload, 1) := by decide +kernel
theorem dX11_round_27 : decode cX11_round 27 = .ok (.ifCond .le 13, 3) := by decide +kernel
theorem dX11_round_30 : decode cX11_round 30 = .ok (.iload_n 1, 1) := by decide +kernel
theorem dX11_round_31 : decode cX11_round 31 = .ok (.aload_n 0, 1) := by decide +kernel
theorem dX11_round_32 : decode cX11_round 32 = .ok (.invokevirtual 170, 3) := by decide +kernel
theorem dX11_round_35 : decode cX11_round 35 = .ok (.iadd, 1) := by decide +kernel
theorem dX11_round_36 : decode cX11_round 36 = .ok (.istore_n 1, 1) := by decide +kernel
theorem dX11_round_37 : decode cX11_round 37 = .ok (.goto (-16), 3) := by decide +kernel
theorem dX11_round_40 : decode cX11_round 40 = .ok (.aload_n 0, 1) := by decide +kernel
theorem dX11_round_41 : decode cX11_round 41 = .ok (.iload_n 1, 1) := by decide +kernel
theorem dX11_round_42 : decode cX11_round 42 = .ok (.invokevirtual 179, 3) := by decide +kernel
theorem dX11_round_45 : decode cX11_round 45 = .ok (.ireturn, 1) := by decide +kernel
theorem dX11_orNone_0 : decode cX11_orNone 0 = .ok (.iload_n 0, 1) := by decide +kernel
theorem dX11_orNone_1 : decode cX11_orNone 1 = .ok (.ifCond .ge 8, 3) := by decide +kernel
theorem dX11_orNone_4 : decode cX11_orNone 4 = .ok (.ldc 195, 2) := by decide +kernel
theorem dX11_orNone_6 : decode cX11_orNone 6 = .ok (.goto 4, 3) := by decide +kernel
theorem dX11_orNone_9 : decode cX11_orNone 9 = .ok (.iload_n 0, 1) := by decide +kernel
theorem dX11_orNone_10 : decode cX11_orNone 10 = .ok (.ireturn, 1) := by decide +kernel
theorem dX11_flagOn_0 : decode cX11_flagOn 0 = .ok (.iconst (-1), 1) := by decide +kernel
theorem dX11_flagOn_1 : decode cX11_flagOn 1 = .ok (.istore_n 2, 1) := by decide +kernel
theorem dX11_flagOn_2 : decode cX11_flagOn 2 = .ok (.aload_n 0, 1) := by decide +kernel
theorem dX11_flagOn_3 : decode cX11_flagOn 3 = .ok (.getfield 7, 3) := by decide +kernel
theorem dX11_flagOn_6 : decode cX11_flagOn 6 = .ok (.iconst 3, 1) := by decide +kernel
theorem dX11_flagOn_7 : decode cX11_flagOn 7 = .ok (.iaload, 1) := by decide +kernel
theorem dX11_flagOn_8 : decode cX11_flagOn 8 = .ok (.iconst 1, 1) := by decide +kernel
theorem dX11_flagOn_9 : decode cX11_flagOn 9 = .ok (.isub, 1) := by decide +kernel
theorem dX11_flagOn_10 : decode cX11_flagOn 10 = .ok (.istore_n 3, 1) := by decide +kernel
theorem dX11_flagOn_11 : decode cX11_flagOn 11 = .ok (.iload_n 3, 1) := by decide +kernel
theorem dX11_flagOn_12 : decode cX11_flagOn 12 = .ok (.ifCond .lt 28, 3) := by decide +kernel
theorem dX11_flagOn_15 : decode cX11_flagOn 15 = .ok (.aload_n 0, 1) := by decide +kernel
theorem dX11_flagOn_16 : decode cX11_flagOn 16 = .ok (.getfield 7, 3) := by decide +kernel
theorem dX11_flagOn_19 : decode cX11_flagOn 19 = .ok (.bipush 7, 2) := by decide +kernel
theorem dX11_flagOn_21 : decode cX11_flagOn 21 = .ok (.iload_n 3, 1) := by decide +kernel
theorem dX11_flagOn_22 : decode cX11_flagOn 22 = .ok (.iadd, 1) := by decide +kernel
theorem dX11_flagOn_23 : decode cX11_flagOn 23 = .ok (.iaload, 1) := by decide +kernel
theorem dX11_flagOn_24 : decode cX11_flagOn 24 = .ok (.iload_n 1, 1) := by decide +kernel
theorem dX11_flagOn_25 : decode cX11_flagOn 25 = .ok (.if_icmp .ne 7, 3) := by decide +kernel
theorem dX11_flagOn_28 : decode cX11_flagOn 28 = .ok (.iload_n 3, 1) := by decide +kernel
theorem dX11_flagOn_29 : decode cX11_flagOn 29 = .ok (.goto 4, 3) := by decide +kernel
theorem dX11_flagOn_32 : decode cX11_flagOn 32 = .ok (.iload_n 2, 1) := by decide +kernel
theorem dX11_flagOn_33 : decode cX11_flagOn 33 = .ok (.istore_n 2, 1) := by decide +kernel
theorem dX11_flagOn_34 : decode cX11_flagOn 34 = .ok (.iinc 3 (-1), 3) := by decide +kernel
theorem dX11_flagOn_37 : decode cX11_flagOn 37 = .ok (.goto (-26), 3) := by decide +kernel
theorem dX11_flagOn_40 : decode cX11_flagOn 40 = .ok (.iload_n 2, 1) := by decide +kernel
theorem dX11_flagOn_41 : decode cX11_flagOn 41 = .ok (.ireturn, 1) := by decide +kernel
theorem dX11_cellOf_0 : decode cX11_cellOf 0 = .ok (.iload_n 1, 1) := by decide +kernel
theorem dX11_cellOf_1 : decode cX11_cellOf 1 = .ok (.invokestatic 156, 3) := by decide +kernel
theorem dX11_cellOf_4 : decode cX11_cellOf 4 = .ok (.ifCond .eq 12, 3) := by decide +kernel
theorem dX11_cellOf_7 : decode cX11_cellOf 7 = .ok (.iload_n 2, 1) := by decide +kernel
theorem dX11_cellOf_8 : decode cX11_cellOf 8 = .ok (.iconst 0, 1) := by decide +kernel
theorem dX11_cellOf_9 : decode cX11_cellOf 9 = .ok (.iconst 3, 1) := by decide +kernel
theorem dX11_cellOf_10 : decode cX11_cellOf 10 = .ok (.invokestatic 44, 3) := by decide +kernel
theorem dX11_cellOf_13 : decode cX11_cellOf 13 = .ok (.ifCond .ne 6, 3) := by decide +kernel
theorem dX11_cellOf_16 : decode cX11_cellOf 16 = .ok (.ldc 48, 2) := by decide +kernel
theorem dX11_cellOf_18 : decode cX11_cellOf 18 = .ok (.ireturn, 1) := by decide +kernel
theorem dX11_cellOf_19 : decode cX11_cellOf 19 = .ok (.iload_n 2, 1) := by decide +kernel
theorem dX11_cellOf_20 : decode cX11_cellOf 20 = .ok (.tableswitch 57 0 2 #[28, 38, 48], 28) := by decide +kernel
theorem dX11_cellOf_48 : decode cX11_cellOf 48 = .ok (.aload_n 0, 1) := by decide +kernel
theorem dX11_cellOf_49 : decode cX11_cellOf 49 = .ok (.getfield 7, 3) := by decide +kernel
theorem dX11_cellOf_52 : decode cX11_cellOf 52 = .ok (.bipush 11, 2) := by decide +kernel
theorem dX11_cellOf_54 : decode cX11_cellOf 54 = .ok (.iload_n 1, 1) := by decide +kernel
theorem dX11_cellOf_55 : decode cX11_cellOf 55 = .ok (.iadd, 1) := by decide +kernel
theorem dX11_cellOf_56 : decode cX11_cellOf 56 = .ok (.iaload, 1) := by decide +kernel
theorem dX11_cellOf_57 : decode cX11_cellOf 57 = .ok (.ireturn, 1) := by decide +kernel
theorem dX11_cellOf_58 : decode cX11_cellOf 58 = .ok (.aload_n 0, 1) := by decide +kernel
theorem dX11_cellOf_59 : decode cX11_cellOf 59 = .ok (.getfield 7, 3) := by decide +kernel
theorem dX11_cellOf_62 : decode cX11_cellOf 62 = .ok (.bipush 75, 2) := by decide +kernel
theorem dX11_cellOf_64 : decode cX11_cellOf 64 = .ok (.iload_n 1, 1) := by decide +kernel
theorem dX11_cellOf_65 : decode cX11_cellOf 65 = .ok (.iadd, 1) := by decide +kernel
theorem dX11_cellOf_66 : decode cX11_cellOf 66 = .ok (.iaload, 1) := by decide +kernel
theorem dX11_cellOf_67 : decode cX11_cellOf 67 = .ok (.ireturn, 1) := by decide +kernel
theorem dX11_cellOf_68 : decode cX11_cellOf 68 = .ok (.aload_n 0, 1) := by decide +kernel
theorem dX11_cellOf_69 : decode cX11_cellOf 69 = .ok (.iload_n 1, 1) := by decide +kernel
theorem dX11_cellOf_70 : decode cX11_cellOf 70 = .ok (.invokevirtual 79, 3) := by decide +kernel
theorem dX11_cellOf_73 : decode cX11_cellOf 73 = .ok (.invokestatic 196, 3) := by decide +kernel
theorem dX11_cellOf_76 : decode cX11_cellOf 76 = .ok (.ireturn, 1) := by decide +kernel
theorem dX11_cellOf_77 : decode cX11_cellOf 77 = .ok (.aload_n 0, 1) := by decide +kernel
theorem dX11_cellOf_78 : decode cX11_cellOf 78 = .ok (.iload_n 1, 1) := by decide +kernel
