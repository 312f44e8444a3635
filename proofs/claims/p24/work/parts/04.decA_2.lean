theorem dX8_layCard_70 : decode cX8_layCard 70 = .ok (.if_icmp .ge 6, 3) := by decide +kernel
theorem dX8_layCard_73 : decode cX8_layCard 73 = .ok (.ldc 84, 2) := by decide +kernel
theorem dX8_layCard_75 : decode cX8_layCard 75 = .ok (.ireturn, 1) := by decide +kernel
theorem dX8_layCard_76 : decode cX8_layCard 76 = .ok (.aload 5, 2) := by decide +kernel
theorem dX8_layCard_78 : decode cX8_layCard 78 = .ok (.iload_n 2, 1) := by decide +kernel
theorem dX8_layCard_79 : decode cX8_layCard 79 = .ok (.iload_n 3, 1) := by decide +kernel
theorem dX8_layCard_80 : decode cX8_layCard 80 = .ok (.iload 4, 2) := by decide +kernel
theorem dX8_layCard_82 : decode cX8_layCard 82 = .ok (.invokevirtual 128, 3) := by decide +kernel
theorem dX8_layCard_85 : decode cX8_layCard 85 = .ok (.aload 5, 2) := by decide +kernel
theorem dX8_layCard_87 : decode cX8_layCard 87 = .ok (.invokevirtual 132, 3) := by decide +kernel
theorem dX8_layCard_90 : decode cX8_layCard 90 = .ok (.invokestatic 136, 3) := by decide +kernel
theorem dX8_layCard_93 : decode cX8_layCard 93 = .ok (.ireturn, 1) := by decide +kernel
theorem dX8_harm_0 : decode cX8_harm 0 = .ok (.aload_n 0, 1) := by decide +kernel
theorem dX8_harm_1 : decode cX8_harm 1 = .ok (.iload_n 1, 1) := by decide +kernel
theorem dX8_harm_2 : decode cX8_harm 2 = .ok (.invokevirtual 119, 3) := by decide +kernel
theorem dX8_harm_5 : decode cX8_harm 5 = .ok (.ifCond .eq 14, 3) := by decide +kernel
theorem dX8_harm_8 : decode cX8_harm 8 = .ok (.iload_n 2, 1) := by decide +kernel
theorem dX8_harm_9 : decode cX8_harm 9 = .ok (.bipush (-9), 2) := by decide +kernel
theorem dX8_harm_11 : decode cX8_harm 11 = .ok (.bipush 9, 2) := by decide +kernel
theorem dX8_harm_13 : decode cX8_harm 13 = .ok (.invokestatic 79, 3) := by decide +kernel
theorem dX8_harm_16 : decode cX8_harm 16 = .ok (.ifCond .ne 6, 3) := by decide +kernel
theorem dX8_harm_19 : decode cX8_harm 19 = .ok (.ldc 83, 2) := by decide +kernel
theorem dX8_harm_21 : decode cX8_harm 21 = .ok (.ireturn, 1) := by decide +kernel
theorem dX8_harm_22 : decode cX8_harm 22 = .ok (.aload_n 0, 1) := by decide +kernel
theorem dX8_harm_23 : decode cX8_harm 23 = .ok (.getfield 21, 3) := by decide +kernel
theorem dX8_harm_26 : decode cX8_harm 26 = .ok (.iload_n 1, 1) := by decide +kernel
theorem dX8_harm_27 : decode cX8_harm 27 = .ok (.aaload, 1) := by decide +kernel
theorem dX8_harm_28 : decode cX8_harm 28 = .ok (.astore_n 3, 1) := by decide +kernel
theorem dX8_harm_29 : decode cX8_harm 29 = .ok (.aload_n 3, 1) := by decide +kernel
theorem dX8_harm_30 : decode cX8_harm 30 = .ok (.invokevirtual 54, 3) := by decide +kernel
theorem dX8_harm_33 : decode cX8_harm 33 = .ok (.ifCond .eq 6, 3) := by decide +kernel
theorem dX8_harm_36 : decode cX8_harm 36 = .ok (.ldc 84, 2) := by decide +kernel
theorem dX8_harm_38 : decode cX8_harm 38 = .ok (.ireturn, 1) := by decide +kernel
theorem dX8_harm_39 : decode cX8_harm 39 = .ok (.aload_n 3, 1) := by decide +kernel
theorem dX8_harm_40 : decode cX8_harm 40 = .ok (.iload_n 2, 1) := by decide +kernel
theorem dX8_harm_41 : decode cX8_harm 41 = .ok (.invokevirtual 141, 3) := by decide +kernel
theorem dX8_harm_44 : decode cX8_harm 44 = .ok (.aload_n 3, 1) := by decide +kernel
theorem dX8_harm_45 : decode cX8_harm 45 = .ok (.getfield 145, 3) := by decide +kernel
theorem dX8_harm_48 : decode cX8_harm 48 = .ok (.ireturn, 1) := by decide +kernel
theorem dX8_enter_0 : decode cX8_enter 0 = .ok (.iload_n 2, 1) := by decide +kernel
theorem dX8_enter_1 : decode cX8_enter 1 = .ok (.ifCond .lt 23, 3) := by decide +kernel
theorem dX8_enter_4 : decode cX8_enter 4 = .ok (.iload_n 2, 1) := by decide +kernel
theorem dX8_enter_5 : decode cX8_enter 5 = .ok (.bipush 64, 2) := by decide +kernel
theorem dX8_enter_7 : decode cX8_enter 7 = .ok (.if_icmp .ge 17, 3) := by decide +kernel
theorem dX8_enter_10 : decode cX8_enter 10 = .ok (.aload_n 0, 1) := by decide +kernel
theorem dX8_enter_11 : decode cX8_enter 11 = .ok (.getfield 12, 3) := by decide +kernel
theorem dX8_enter_14 : decode cX8_enter 14 = .ok (.getfield 85, 3) := by decide +kernel
theorem dX8_enter_17 : decode cX8_enter 17 = .ok (.iload_n 2, 1) := by decide +kernel
theorem dX8_enter_18 : decode cX8_enter 18 = .ok (.iaload, 1) := by decide +kernel
theorem dX8_enter_19 : decode cX8_enter 19 = .ok (.bipush 7, 2) := by decide +kernel
theorem dX8_enter_21 : decode cX8_enter 21 = .ok (.if_icmp .ne 21, 3) := by decide +kernel
theorem dX8_enter_24 : decode cX8_enter 24 = .ok (.aload_n 1, 1) := by decide +kernel
theorem dX8_enter_25 : decode cX8_enter 25 = .ok (.iconst (-1), 1) := by decide +kernel
theorem dX8_enter_26 : decode cX8_enter 26 = .ok (.putfield 51, 3) := by decide +kernel
theorem dX8_enter_29 : decode cX8_enter 29 = .ok (.aload_n 1, 1) := by decide +kernel
theorem dX8_enter_30 : decode cX8_enter 30 = .ok (.dup, 1) := by decide +kernel
theorem dX8_enter_31 : decode cX8_enter 31 = .ok (.getfield 58, 3) := by decide +kernel
theorem dX8_enter_34 : decode cX8_enter 34 = .ok (.iconst 1, 1) := by decide +kernel
theorem dX8_enter_35 : decode cX8_enter 35 = .ok (.iadd, 1) := by decide +kernel
theorem dX8_enter_36 : decode cX8_enter 36 = .ok (.putfield 58, 3) := by decide +kernel
theorem dX8_enter_39 : decode cX8_enter 39 = .ok (.goto 8, 3) := by decide +kernel
theorem dX8_enter_42 : decode cX8_enter 42 = .ok (.aload_n 1, 1) := by decide +kernel
theorem dX8_enter_43 : decode cX8_enter 43 = .ok (.iload_n 2, 1) := by decide +kernel
theorem dX8_enter_44 : decode cX8_enter 44 = .ok (.putfield 51, 3) := by decide +kernel
theorem dX8_enter_47 : decode cX8_enter 47 = .ok (.return_, 1) := by decide +kernel
theorem dX8_turnOnGears_0 : decode cX8_turnOnGears 0 = .ok (.iconst 0, 1) := by decide +kernel
theorem dX8_turnOnGears_1 : decode cX8_turnOnGears 1 = .ok (.istore_n 1, 1) := by decide +kernel
theorem dX8_turnOnGears_2 : decode cX8_turnOnGears 2 = .ok (.iload_n 1, 1) := by decide +kernel
theorem dX8_turnOnGears_3 : decode cX8_turnOnGears 3 = .ok (.aload_n 0, 1) := by decide +kernel
theorem dX8_turnOnGears_4 : decode cX8_turnOnGears 4 = .ok (.getfield 36, 3) := by decide +kernel
theorem dX8_turnOnGears_7 : decode cX8_turnOnGears 7 = .ok (.if_icmp .ge 66, 3) := by decide +kernel
theorem dX8_turnOnGears_10 : decode cX8_turnOnGears 10 = .ok (.aload_n 0, 1) := by decide +kernel
theorem dX8_turnOnGears_11 : decode cX8_turnOnGears 11 = .ok (.getfield 21, 3) := by decide +kernel
theorem dX8_turnOnGears_14 : decode cX8_turnOnGears 14 = .ok (.iload_n 1, 1) := by decide +kernel
theorem dX8_turnOnGears_15 : decode cX8_turnOnGears 15 = .ok (.aaload, 1) := by decide +kernel
theorem dX8_turnOnGears_16 : decode cX8_turnOnGears 16 = .ok (.astore_n 2, 1) := by decide +kernel
theorem dX8_turnOnGears_17 : decode cX8_turnOnGears 17 = .ok (.aload_n 0, 1) := by decide +kernel
theorem dX8_turnOnGears_18 : decode cX8_turnOnGears 18 = .ok (.getfield 12, 3) := by decide +kernel
theorem dX8_turnOnGears_21 : decode cX8_turnOnGears 21 = .ok (.aload_n 2, 1) := by decide +kernel
theorem dX8_turnOnGears_22 : decode cX8_turnOnGears 22 = .ok (.getfield 51, 3) := by decide +kernel
theorem dX8_turnOnGears_25 : decode cX8_turnOnGears 25 = .ok (.invokevirtual 61, 3) := by decide +kernel
theorem dX8_turnOnGears_28 : decode cX8_turnOnGears 28 = .ok (.istore_n 3, 1) := by decide +kernel
theorem dX8_turnOnGears_29 : decode cX8_turnOnGears 29 = .ok (.iload_n 3, 1) := by decide +kernel
theorem dX8_turnOnGears_30 : decode cX8_turnOnGears 30 = .ok (.iconst 5, 1) := by decide +kernel
theorem dX8_turnOnGears_31 : decode cX8_turnOnGears 31 = .ok (.if_icmp .ne 18, 3) := by decide +kernel
theorem dX8_turnOnGears_34 : decode cX8_turnOnGears 34 = .ok (.aload_n 2, 1) := by decide +kernel
theorem dX8_turnOnGears_35 : decode cX8_turnOnGears 35 = .ok (.aload_n 2, 1) := by decide +kernel
theorem dX8_turnOnGears_36 : decode cX8_turnOnGears 36 = .ok (.getfield 148, 3) := by decide +kernel
theorem dX8_turnOnGears_39 : decode cX8_turnOnGears 39 = .ok (.iconst 3, 1) := by decide +kernel
theorem dX8_turnOnGears_40 : decode cX8_turnOnGears 40 = .ok (.invokestatic 151, 3) := by decide +kernel
theorem dX8_turnOnGears_43 : decode cX8_turnOnGears 43 = .ok (.putfield 148, 3) := by decide +kernel
theorem dX8_turnOnGears_46 : decode cX8_turnOnGears 46 = .ok (.goto 21, 3) := by decide +kernel
theorem dX8_turnOnGears_49 : decode cX8_turnOnGears 49 = .ok (.iload_n 3, 1) := by decide +kernel
theorem dX8_turnOnGears_50 : decode cX8_turnOnGears 50 = .ok (.bipush 6, 2) := by decide +kernel
theorem dX8_turnOnGears_52 : decode cX8_turnOnGears 52 = .ok (.if_icmp .ne 15, 3) := by decide +kernel
theorem dX8_turnOnGears_55 : decode cX8_turnOnGears 55 = .ok (.aload_n 2, 1) := by decide +kernel
theorem dX8_turnOnGears_56 : decode cX8_turnOnGears 56 = .ok (.aload_n 2, 1) := by decide +kernel
theorem dX8_turnOnGears_57 : decode cX8_turnOnGears 57 = .ok (.getfield 148, 3) := by decide +kernel
theorem dX8_turnOnGears_60 : decode cX8_turnOnGears 60 = .ok (.iconst 1, 1) := by decide +kernel
theorem dX8_turnOnGears_61 : decode cX8_turnOnGears 61 = .ok (.invokestatic 151, 3) := by decide +kernel
theorem dX8_turnOnGears_64 : decode cX8_turnOnGears 64 = .ok (.putfield 148, 3) := by decide +kernel
theorem dX8_turnOnGears_67 : decode cX8_turnOnGears 67 = .ok (.iinc 1 1, 3) := by decide +kernel
theorem dX8_turnOnGears_70 : decode cX8_turnOnGears 70 = .ok (.goto (-68), 3) := by decide +kernel
theorem dX8_turnOnGears_73 : decode cX8_turnOnGears 73 = .ok (.return_, 1) := by decide +kernel
theorem dX8_touchFlags_0 : decode cX8_touchFlags 0 = .ok (.iconst 0, 1) := by decide +kernel
theorem dX8_touchFlags_1 : decode cX8_touchFlags 1 = .ok (.istore_n 1, 1) := by decide +kernel
theorem dX8_touchFlags_2 : decode cX8_touchFlags 2 = .ok (.iload_n 1, 1) := by decide +kernel
theorem dX8_touchFlags_3 : decode cX8_touchFlags 3 = .ok (.aload_n 0, 1) := by decide +kernel
theorem dX8_touchFlags_4 : decode cX8_touchFlags 4 = .ok (.getfield 36, 3) := by decide +kernel
theorem dX8_touchFlags_7 : decode cX8_touchFlags 7 = .ok (.if_icmp .ge 86, 3) := by decide +kernel
theorem dX8_touchFlags_10 : decode cX8_touchFlags 10 = .ok (.aload_n 0, 1) := by decide +kernel
theorem dX8_touchFlags_11 : decode cX8_touchFlags 11 = .ok (.getfield 21, 3) := by decide +kernel
theorem dX8_touchFlags_14 : decode cX8_touchFlags 14 = .ok (.iload_n 1, 1) := by decide +kernel
theorem dX8_touchFlags_15 : decode cX8_touchFlags 15 = .ok (.aaload, 1) := by decide +kernel
theorem dX8_touchFlags_16 : decode cX8_touchFlags 16 = .ok (.astore_n 2, 1) := by decide +kernel
theorem dX8_touchFlags_17 : decode cX8_touchFlags 17 = .ok (.aload_n 2, 1) := by decide +kernel
theorem dX8_touchFlags_18 : decode cX8_touchFlags 18 = .ok (.getfield 154, 3) := by decide +kernel
theorem dX8_touchFlags_21 : decode cX8_touchFlags 21 = .ok (.aload_n 0, 1) := by decide +kernel
theorem dX8_touchFlags_22 : decode cX8_touchFlags 22 = .ok (.getfield 12, 3) := by decide +kernel
theorem dX8_touchFlags_25 : decode cX8_touchFlags 25 = .ok (.getfield 100, 3) := by decide +kernel
theorem dX8_touchFlags_28 : decode cX8_touchFlags 28 = .ok (.if_icmp .ge 59, 3) := by decide +kernel
theorem dX8_touchFlags_31 : decode cX8_touchFlags 31 = .ok (.aload_n 0, 1) := by decide +kernel
theorem dX8_touchFlags_32 : decode cX8_touchFlags 32 = .ok (.getfield 12, 3) := by decide +kernel
theorem dX8_touchFlags_35 : decode cX8_touchFlags 35 = .ok (.getfield 103, 3) := by decide +kernel
theorem dX8_touchFlags_38 : decode cX8_touchFlags 38 = .ok (.aload_n 2, 1) := by decide +kernel
theorem dX8_touchFlags_39 : decode cX8_touchFlags 39 = .ok (.getfield 154, 3) := by decide +kernel
theorem dX8_touchFlags_42 : decode cX8_touchFlags 42 = .ok (.iaload, 1) := by decide +kernel
theorem dX8_touchFlags_43 : decode cX8_touchFlags 43 = .ok (.aload_n 2, 1) := by decide +kernel
theorem dX8_touchFlags_44 : decode cX8_touchFlags 44 = .ok (.getfield 51, 3) := by decide +kernel
theorem dX8_touchFlags_47 : decode cX8_touchFlags 47 = .ok (.if_icmp .ne 40, 3) := by decide +kernel
theorem dX8_touchFlags_50 : decode cX8_touchFlags 50 = .ok (.aload_n 2, 1) := by decide +kernel
theorem dX8_touchFlags_51 : decode cX8_touchFlags 51 = .ok (.dup, 1) := by decide +kernel
theorem dX8_touchFlags_52 : decode cX8_touchFlags 52 = .ok (.getfield 154, 3) := by decide +kernel
theorem dX8_touchFlags_55 : decode cX8_touchFlags 55 = .ok (.iconst 1, 1) := by decide +kernel
theorem dX8_touchFlags_56 : decode cX8_touchFlags 56 = .ok (.iadd, 1) := by decide +kernel
theorem dX8_touchFlags_57 : decode cX8_touchFlags 57 = .ok (.putfield 154, 3) := by decide +kernel
theorem dX8_touchFlags_60 : decode cX8_touchFlags 60 = .ok (.aload_n 0, 1) := by decide +kernel
theorem dX8_touchFlags_61 : decode cX8_touchFlags 61 = .ok (.getfield 25, 3) := by decide +kernel
theorem dX8_touchFlags_64 : decode cX8_touchFlags 64 = .ok (.iconst (-1), 1) := by decide +kernel
theorem dX8_touchFlags_65 : decode cX8_touchFlags 65 = .ok (.if_icmp .ne 22, 3) := by decide +kernel
theorem dX8_touchFlags_68 : decode cX8_touchFlags 68 = .ok (.aload_n 2, 1) := by decide +kernel
theorem dX8_touchFlags_69 : decode cX8_touchFlags 69 = .ok (.getfield 154, 3) := by decide +kernel
theorem dX8_touchFlags_72 : decode cX8_touchFlags 72 = .ok (.aload_n 0, 1) := by decide +kernel
theorem dX8_touchFlags_73 : decode cX8_touchFlags 73 = .ok (.getfield 12, 3) := by decide +kernel
theorem dX8_touchFlags_76 : decode cX8_touchFlags 76 = .ok (.getfield 100, 3) := by decide +kernel
theorem dX8_touchFlags_79 : decode cX8_touchFlags 79 = .ok (.if_icmp .ne 8, 3) := by decide +kernel
theorem dX8_touchFlags_82 : decode cX8_touchFlags 82 = .ok (.aload_n 0, 1) := by decide +kernel
theorem dX8_touchFlags_83 : decode cX8_touchFlags 83 = .ok (.iload_n 1, 1) := by decide +kernel
theorem dX8_touchFlags_84 : decode cX8_touchFlags 84 = .ok (.putfield 25, 3) := by decide +kernel
theorem dX8_touchFlags_87 : decode cX8_touchFlags 87 = .ok (.iinc 1 1, 3) := by decide +kernel
theorem dX8_touchFlags_90 : decode cX8_touchFlags 90 = .ok (.goto (-88), 3) := by decide +kernel
theorem dX8_touchFlags_93 : decode cX8_touchFlags 93 = .ok (.return_, 1) := by decide +kernel
theorem dX8_countPhase_0 : decode cX8_countPhase 0 = .ok (.aload_n 0, 1) := by decide +kernel
theorem dX8_countPhase_1 : decode cX8_countPhase 1 = .ok (.dup, 1) := by decide +kernel
theorem dX8_countPhase_2 : decode cX8_countPhase 2 = .ok (.getfield 45, 3) := by decide +kernel
theorem dX8_countPhase_5 : decode cX8_countPhase 5 = .ok (.iconst 1, 1) := by decide +kernel
theorem dX8_countPhase_6 : decode cX8_countPhase 6 = .ok (.iadd, 1) := by decide +kernel
theorem dX8_countPhase_7 : decode cX8_countPhase 7 = .ok (.putfield 45, 3) := by decide +kernel
theorem dX8_countPhase_10 : decode cX8_countPhase 10 = .ok (.aload_n 0, 1) := by decide +kernel
theorem dX8_countPhase_11 : decode cX8_countPhase 11 = .ok (.dup, 1) := by decide +kernel
theorem dX8_countPhase_12 : decode cX8_countPhase 12 = .ok (.getfield 39, 3) := by decide +kernel
theorem dX8_countPhase_15 : decode cX8_countPhase 15 = .ok (.iconst 1, 1) := by decide +kernel
theorem dX8_countPhase_16 : decode cX8_countPhase 16 = .ok (.iadd, 1) := by decide +kernel
theorem dX8_countPhase_17 : decode cX8_countPhase 17 = .ok (.putfield 39, 3) := by decide +kernel
theorem dX8_countPhase_20 : decode cX8_countPhase 20 = .ok (.aload_n 0, 1) := by decide +kernel
theorem dX8_countPhase_21 : decode cX8_countPhase 21 = .ok (.getfield 39, 3) := by decide +kernel
theorem dX8_countPhase_24 : decode cX8_countPhase 24 = .ok (.iconst 5, 1) := by decide +kernel
theorem dX8_countPhase_25 : decode cX8_countPhase 25 = .ok (.if_icmp .ne 18, 3) := by decide +kernel
theorem dX8_countPhase_28 : decode cX8_countPhase 28 = .ok (.aload_n 0, 1) := by decide +kernel
theorem dX8_countPhase_29 : decode cX8_countPhase 29 = .ok (.iconst 0, 1) := by decide +kernel
theorem dX8_countPhase_30 : decode cX8_countPhase 30 = .ok (.putfield 39, 3) := by decide +kernel
theorem dX8_countPhase_33 : decode cX8_countPhase 33 = .ok (.aload_n 0, 1) := by decide +kernel
theorem dX8_countPhase_34 : decode cX8_countPhase 34 = .ok (.dup, 1) := by decide +kernel
theorem dX8_countPhase_35 : decode cX8_countPhase 35 = .ok (.getfield 42, 3) := by decide +kernel
theorem dX8_countPhase_38 : decode cX8_countPhase 38 = .ok (.iconst 1, 1) := by decide +kernel
theorem dX8_countPhase_39 : decode cX8_countPhase 39 = .ok (.iadd, 1) := by decide +kernel
theorem dX8_countPhase_40 : decode cX8_countPhase 40 = .ok (.putfield 42, 3) := by decide +kernel
theorem dX8_countPhase_43 : decode cX8_countPhase 43 = .ok (.return_, 1) := by decide +kernel
theorem dX8_repairAndClear_0 : decode cX8_repairAndClear 0 = .ok (.iconst 0, 1) := by decide +kernel
theorem dX8_repairAndClear_1 : decode cX8_repairAndClear 1 = .ok (.istore_n 1, 1) := by decide +kernel
theorem dX8_repairAndClear_2 : decode cX8_repairAndClear 2 = .ok (.iload_n 1, 1) := by decide +kernel
theorem dX8_repairAndClear_3 : decode cX8_repairAndClear 3 = .ok (.aload_n 0, 1) := by decide +kernel
theorem dX8_repairAndClear_4 : decode cX8_repairAndClear 4 = .ok (.getfield 36, 3) := by decide +kernel
theorem dX8_repairAndClear_7 : decode cX8_repairAndClear 7 = .ok (.if_icmp .ge 45, 3) := by decide +kernel
theorem dX8_repairAndClear_10 : decode cX8_repairAndClear 10 = .ok (.aload_n 0, 1) := by decide +kernel
theorem dX8_repairAndClear_11 : decode cX8_repairAndClear 11 = .ok (.getfield 21, 3) := by decide +kernel
theorem dX8_repairAndClear_14 : decode cX8_repairAndClear 14 = .ok (.iload_n 1, 1) := by decide +kernel
theorem dX8_repairAndClear_15 : decode cX8_repairAndClear 15 = .ok (.aaload, 1) := by decide +kernel
theorem dX8_repairAndClear_16 : decode cX8_repairAndClear 16 = .ok (.astore_n 2, 1) := by decide +kernel
theorem dX8_repairAndClear_17 : decode cX8_repairAndClear 17 = .ok (.aload_n 0, 1) := by decide +kernel
theorem dX8_repairAndClear_18 : decode cX8_repairAndClear 18 = .ok (.getfield 12, 3) := by decide +kernel
theorem dX8_repairAndClear_21 : decode cX8_repairAndClear 21 = .ok (.aload_n 2, 1) := by decide +kernel
theorem dX8_repairAndClear_22 : decode cX8_repairAndClear 22 = .ok (.getfield 51, 3) := by decide +kernel
theorem dX8_repairAndClear_25 : decode cX8_repairAndClear 25 = .ok (.invokevirtual 61, 3) := by decide +kernel
theorem dX8_repairAndClear_28 : decode cX8_repairAndClear 28 = .ok (.bipush 8, 2) := by decide +kernel
theorem dX8_repairAndClear_30 : decode cX8_repairAndClear 30 = .ok (.if_icmp .ne 8, 3) := by decide +kernel
theorem dX8_repairAndClear_33 : decode cX8_repairAndClear 33 = .ok (.aload_n 2, 1) := by decide +kernel
theorem dX8_repairAndClear_34 : decode cX8_repairAndClear 34 = .ok (.iconst (-1), 1) := by decide +kernel
theorem dX8_repairAndClear_35 : decode cX8_repairAndClear 35 = .ok (.invokevirtual 141, 3) := by decide +kernel
theorem dX8_repairAndClear_38 : decode cX8_repairAndClear 38 = .ok (.aload_n 2, 1) := by decide +kernel
theorem dX8_repairAndClear_39 : decode cX8_repairAndClear 39 = .ok (.aload_n 2, 1) := by decide +kernel
theorem dX8_repairAndClear_40 : decode cX8_repairAndClear 40 = .ok (.invokevirtual 157, 3) := by decide +kernel
theorem dX8_repairAndClear_43 : decode cX8_repairAndClear 43 = .ok (.invokevirtual 160, 3) := by decide +kernel
theorem dX8_repairAndClear_46 : decode cX8_repairAndClear 46 = .ok (.iinc 1 1, 3) := by decide +kernel
theorem dX8_repairAndClear_49 : decode cX8_repairAndClear 49 = .ok (.goto (-47), 3) := by decide +kernel
theorem dX8_repairAndClear_52 : decode cX8_repairAndClear 52 = .ok (.return_, 1) := by decide +kernel
theorem dX8_bringBack_0 : decode cX8_bringBack 0 = .ok (.iconst 0, 1) := by decide +kernel
theorem dX8_bringBack_1 : decode cX8_bringBack 1 = .ok (.istore_n 1, 1) := by decide +kernel
theorem dX8_bringBack_2 : decode cX8_bringBack 2 = .ok (.iload_n 1, 1) := by decide +kernel
theorem dX8_bringBack_3 : decode cX8_bringBack 3 = .ok (.aload_n 0, 1) := by decide +kernel
theorem dX8_bringBack_4 : decode cX8_bringBack 4 = .ok (.getfield 36, 3) := by decide +kernel
theorem dX8_bringBack_7 : decode cX8_bringBack 7 = .ok (.if_icmp .ge 50, 3) := by decide +kernel
theorem dX8_bringBack_10 : decode cX8_bringBack 10 = .ok (.aload_n 0, 1) := by decide +kernel
theorem dX8_bringBack_11 : decode cX8_bringBack 11 = .ok (.getfield 21, 3) := by decide +kernel
theorem dX8_bringBack_14 : decode cX8_bringBack 14 = .ok (.iload_n 1, 1) := by decide +kernel
theorem dX8_bringBack_15 : decode cX8_bringBack 15 = .ok (.aaload, 1) := by decide +kernel
theorem dX8_bringBack_16 : decode cX8_bringBack 16 = .ok (.astore_n 2, 1) := by decide +kernel
theorem dX8_bringBack_17 : decode cX8_bringBack 17 = .ok (.aload_n 2, 1) := by decide +kernel
theorem dX8_bringBack_18 : decode cX8_bringBack 18 = .ok (.invokevirtual 54, 3) := by decide +kernel
theorem dX8_bringBack_21 : decode cX8_bringBack 21 = .ok (.ifCond .eq 30, 3) := by decide +kernel
theorem dX8_bringBack_24 : decode cX8_bringBack 24 = .ok (.aload_n 2, 1) := by decide +kernel
theorem dX8_bringBack_25 : decode cX8_bringBack 25 = .ok (.aload_n 0, 1) := by decide +kernel
theorem dX8_bringBack_26 : decode cX8_bringBack 26 = .ok (.aload_n 2, 1) := by decide +kernel
theorem dX8_bringBack_27 : decode cX8_bringBack 27 = .ok (.getfield 163, 3) := by decide +kernel
theorem dX8_bringBack_30 : decode cX8_bringBack 30 = .ok (.invokevirtual 166, 3) := by decide +kernel
theorem dX8_bringBack_33 : decode cX8_bringBack 33 = .ok (.putfield 51, 3) := by decide +kernel
theorem dX8_bringBack_36 : decode cX8_bringBack 36 = .ok (.aload_n 2, 1) := by decide +kernel
theorem dX8_bringBack_37 : decode cX8_bringBack 37 = .ok (.iconst 0, 1) := by decide +kernel
theorem dX8_bringBack_38 : decode cX8_bringBack 38 = .ok (.putfield 148, 3) := by decide +kernel
theorem dX8_bringBack_41 : decode cX8_bringBack 41 = .ok (.aload_n 2, 1) := by decide +kernel
theorem dX8_bringBack_42 : decode cX8_bringBack 42 = .ok (.iconst 2, 1) := by decide +kernel
theorem dX8_bringBack_43 : decode cX8_bringBack 43 = .ok (.putfield 145, 3) := by decide +kernel
theorem dX8_bringBack_46 : decode cX8_bringBack 46 = .ok (.aload_n 2, 1) := by decide +kernel
theorem dX8_bringBack_47 : decode cX8_bringBack 47 = .ok (.iconst 5, 1) := by decide +kernel
theorem dX8_bringBack_48 : decode cX8_bringBack 48 = .ok (.invokevirtual 160, 3) := by decide +kernel
theorem dX8_bringBack_51 : decode cX8_bringBack 51 = .ok (.iinc 1 1, 3) := by decide +kernel
theorem dX8_bringBack_54 : decode cX8_bringBack 54 = .ok (.goto (-52), 3) := by decide +kernel
theorem dX8_bringBack_57 : decode cX8_bringBack 57 = .ok (.return_, 1) := by decide +kernel
theorem dX8_cellToComeBack_0 : decode cX8_cellToComeBack 0 = .ok (.aload_n 0, 1) := by decide +kernel
theorem dX8_cellToComeBack_1 : decode cX8_cellToComeBack 1 = .ok (.getfield 12, 3) := by decide +kernel
theorem dX8_cellToComeBack_4 : decode cX8_cellToComeBack 4 = .ok (.iload_n 1, 1) := by decide +kernel
theorem dX8_cellToComeBack_5 : decode cX8_cellToComeBack 5 = .ok (.invokevirtual 112, 3) := by decide +kernel
theorem dX8_cellToComeBack_8 : decode cX8_cellToComeBack 8 = .ok (.ifCond .ne 14, 3) := by decide +kernel
theorem dX8_cellToComeBack_11 : decode cX8_cellToComeBack 11 = .ok (.aload_n 0, 1) := by decide +kernel
theorem dX8_cellToComeBack_12 : decode cX8_cellToComeBack 12 = .ok (.iload_n 1, 1) := by decide +kernel
theorem dX8_cellToComeBack_13 : decode cX8_cellToComeBack 13 = .ok (.invokevirtual 68, 3) := by decide +kernel
theorem dX8_cellToComeBack_16 : decode cX8_cellToComeBack 16 = .ok (.iconst (-1), 1) := by decide +kernel
theorem dX8_cellToComeBack_17 : decode cX8_cellToComeBack 17 = .ok (.if_icmp .ne 5, 3) := by decide +kernel
theorem dX8_cellToComeBack_20 : decode cX8_cellToComeBack 20 = .ok (.iload_n 1, 1) := by decide +kernel
theorem dX8_cellToComeBack_21 : decode cX8_cellToComeBack 21 = .ok (.ireturn, 1) := by decide +kernel
theorem dX8_cellToComeBack_22 : decode cX8_cellToComeBack 22 = .ok (.iconst 0, 1) := by decide +kernel
theorem dX8_cellToComeBack_23 : decode cX8_cellToComeBack 23 = .ok (.istore_n 2, 1) := by decide +kernel
theorem dX8_cellToComeBack_24 : decode cX8_cellToComeBack 24 = .ok (.iload_n 2, 1) := by decide +kernel
theorem dX8_cellToComeBack_25 : decode cX8_cellToComeBack 25 = .ok (.bipush 64, 2) := by decide +kernel
theorem dX8_cellToComeBack_27 : decode cX8_cellToComeBack 27 = .ok (.if_icmp .ge 31, 3) := by decide +kernel
theorem dX8_cellToComeBack_30 : decode cX8_cellToComeBack 30 = .ok (.aload_n 0, 1) := by decide +kernel
theorem dX8_cellToComeBack_31 : decode cX8_cellToComeBack 31 = .ok (.getfield 12, 3) := by decide +kernel
theorem dX8_cellToComeBack_34 : decode cX8_cellToComeBack 34 = .ok (.iload_n 2, 1) := by decide +kernel
theorem dX8_cellToComeBack_35 : decode cX8_cellToComeBack 35 = .ok (.invokevirtual 112, 3) := by decide +kernel
theorem dX8_cellToComeBack_38 : decode cX8_cellToComeBack 38 = .ok (.ifCond .ne 14, 3) := by decide +kernel
theorem dX8_cellToComeBack_41 : decode cX8_cellToComeBack 41 = .ok (.aload_n 0, 1) := by decide +kernel
theorem dX8_cellToComeBack_42 : decode cX8_cellToComeBack 42 = .ok (.iload_n 2, 1) := by decide +kernel
theorem dX8_cellToComeBack_43 : decode cX8_cellToComeBack 43 = .ok (.invokevirtual 68, 3) := by decide +kernel
theorem dX8_cellToComeBack_46 : decode cX8_cellToComeBack 46 = .ok (.iconst (-1), 1) := by decide +kernel
theorem dX8_cellToComeBack_47 : decode cX8_cellToComeBack 47 = .ok (.if_icmp .ne 5, 3) := by decide +kernel
theorem dX8_cellToComeBack_50 : decode cX8_cellToComeBack 50 = .ok (.iload_n 2, 1) := by decide +kernel
theorem dX8_cellToComeBack_51 : decode cX8_cellToComeBack 51 = .ok (.ireturn, 1) := by decide +kernel
theorem dX8_cellToComeBack_52 : decode cX8_cellToComeBack 52 = .ok (.iinc 2 1, 3) := by decide +kernel
theorem dX8_cellToComeBack_55 : decode cX8_cellToComeBack 55 = .ok (.goto (-31), 3) := by decide +kernel
theorem dX8_cellToComeBack_58 : decode cX8_cellToComeBack 58 = .ok (.iconst (-1), 1) := by decide +kernel
theorem dX8_cellToComeBack_59 : decode cX8_cellToComeBack 59 = .ok (.ireturn, 1) := by decide +kernel
theorem dX9_init_0 : decode cX9_init 0 = .ok (.aload_n 0, 1) := by decide +kernel
theorem dX9_init_1 : decode cX9_init 1 = .ok (.invokespecial 3, 3) := by decide +kernel
theorem dX9_init_4 : decode cX9_init 4 = .ok (.aload_n 0, 1) := by decide +kernel
theorem dX9_init_5 : decode cX9_init 5 = .ok (.bipush 64, 2) := by decide +kernel
theorem dX9_init_7 : decode cX9_init 7 = .ok (.newarray .int, 2) := by decide +kernel
theorem dX9_init_9 : decode cX9_init 9 = .ok (.putfield 9, 3) := by decide +kernel
theorem dX9_init_12 : decode cX9_init 12 = .ok (.aload_n 0, 1) := by decide +kernel
theorem dX9_init_13 : decode cX9_init 13 = .ok (.bipush 64, 2) := by decide +kernel
theorem dX9_init_15 : decode cX9_init 15 = .ok (.newarray .int, 2) := by decide +kernel
theorem dX9_init_17 : decode cX9_init 17 = .ok (.putfield 15, 3) := by decide +kernel
theorem dX9_init_20 : decode cX9_init 20 = .ok (.return_, 1) := by decide +kernel
theorem dX9_shortest_0 : decode cX9_shortest 0 = .ok (.aload_n 0, 1) := by decide +kernel
theorem dX9_shortest_1 : decode cX9_shortest 1 = .ok (.getfield 9, 3) := by decide +kernel
theorem dX9_shortest_4 : decode cX9_shortest 4 = .ok (.iconst (-1), 1) := by decide +kernel
theorem dX9_shortest_5 : decode cX9_shortest 5 = .ok (.invokestatic 18, 3) := by decide +kernel
theorem dX9_shortest_8 : decode cX9_shortest 8 = .ok (.aload_n 0, 1) := by decide +kernel
theorem dX9_shortest_9 : decode cX9_shortest 9 = .ok (.iconst 0, 1) := by decide +kernel
theorem dX9_shortest_10 : decode cX9_shortest 10 = .ok (.putfield 24, 3) := by decide +kernel
theorem dX9_shortest_13 : decode cX9_shortest 13 = .ok (.aload_n 0, 1) := by decide +kernel
theorem dX9_shortest_14 : decode cX9_shortest 14 = .ok (.iload_n 2, 1) := by decide +kernel
theorem dX9_shortest_15 : decode cX9_shortest 15 = .ok (.iconst 0, 1) := by decide +kernel
theorem dX9_shortest_16 : decode cX9_shortest 16 = .ok (.invokevirtual 28, 3) := by decide +kernel
theorem dX9_shortest_19 : decode cX9_shortest 19 = .ok (.iconst 0, 1) := by decide +kernel
theorem dX9_shortest_20 : decode cX9_shortest 20 = .ok (.istore 4, 2) := by decide +kernel
theorem dX9_shortest_22 : decode cX9_shortest 22 = .ok (.iload 4, 2) := by decide +kernel
theorem dX9_shortest_24 : decode cX9_shortest 24 = .ok (.bipush 64, 2) := by decide +kernel
theorem dX9_shortest_26 : decode cX9_shortest 26 = .ok (.if_icmp .ge 40, 3) := by decide +kernel
theorem dX9_shortest_29 : decode cX9_shortest 29 = .ok (.iload 4, 2) := by decide +kernel
theorem dX9_shortest_31 : decode cX9_shortest 31 = .ok (.aload_n 0, 1) := by decide +kernel
theorem dX9_shortest_32 : decode cX9_shortest 32 = .ok (.getfield 24, 3) := by decide +kernel
theorem dX9_shortest_35 : decode cX9_shortest 35 = .ok (.if_icmp .ge 31, 3) := by decide +kernel
theorem dX9_shortest_38 : decode cX9_shortest 38 = .ok (.aload_n 0, 1) := by decide +kernel
theorem dX9_shortest_39 : decode cX9_shortest 39 = .ok (.getfield 9, 3) := by decide +kernel
theorem dX9_shortest_42 : decode cX9_shortest 42 = .ok (.iload_n 3, 1) := by decide +kernel
theorem dX9_shortest_43 : decode cX9_shortest 43 = .ok (.iaload, 1) := by decide +kernel
theorem dX9_shortest_44 : decode cX9_shortest 44 = .ok (.iconst (-1), 1) := by decide +kernel
theorem dX9_shortest_45 : decode cX9_shortest 45 = .ok (.if_icmp .ne 21, 3) := by decide +kernel
theorem dX9_shortest_48 : decode cX9_shortest 48 = .ok (.aload_n 0, 1) := by decide +kernel
theorem dX9_shortest_49 : decode cX9_shortest 49 = .ok (.aload_n 1, 1) := by decide +kernel
theorem dX9_shortest_50 : decode cX9_shortest 50 = .ok (.aload_n 0, 1) := by decide +kernel
theorem dX9_shortest_51 : decode cX9_shortest 51 = .ok (.getfield 15, 3) := by decide +kernel
theorem dX9_shortest_54 : decode cX9_shortest 54 = .ok (.iload 4, 2) := by decide +kernel
theorem dX9_shortest_56 : decode cX9_shortest 56 = .ok (.iaload, 1) := by decide +kernel
theorem dX9_shortest_57 : decode cX9_shortest 57 = .ok (.invokevirtual 32, 3) := by decide +kernel
theorem dX9_shortest_60 : decode cX9_shortest 60 = .ok (.iinc 4 1, 3) := by decide +kernel
theorem dX9_shortest_63 : decode cX9_shortest 63 = .ok (.goto (-41), 3) := by decide +kernel
theorem dX9_shortest_66 : decode cX9_shortest 66 = .ok (.aload_n 0, 1) := by decide +kernel
theorem dX9_shortest_67 : decode cX9_shortest 67 = .ok (.getfield 9, 3) := by decide +kernel
theorem dX9_shortest_70 : decode cX9_shortest 70 = .ok (.iload_n 3, 1) := by decide +kernel
theorem dX9_shortest_71 : decode cX9_shortest 71 = .ok (.iaload, 1) := by decide +kernel
theorem dX9_shortest_72 : decode cX9_shortest 72 = .ok (.iconst (-1), 1) := by decide +kernel
theorem dX9_shortest_73 : decode cX9_shortest 73 = .ok (.if_icmp .ne 8, 3) := by decide +kernel
theorem dX9_shortest_76 : decode cX9_shortest 76 = .ok (.ldc 36, 2) := by decide +kernel
theorem dX9_shortest_78 : decode cX9_shortest 78 = .ok (.goto 9, 3) := by decide +kernel
theorem dX9_shortest_81 : decode cX9_shortest 81 = .ok (.aload_n 0, 1) := by decide +kernel
theorem dX9_shortest_82 : decode cX9_shortest 82 = .ok (.getfield 9, 3) := by decide +kernel
theorem dX9_shortest_85 : decode cX9_shortest 85 = .ok (.iload_n 3, 1) := by decide +kernel
theorem dX9_shortest_86 : decode cX9_shortest 86 = .ok (.iaload, 1) := by decide +kernel
theorem dX9_shortest_87 : decode cX9_shortest 87 = .ok (.ireturn, 1) := by decide +kernel
theorem dX9_reachAround_0 : decode cX9_reachAround 0 = .ok (.iconst 0, 1) := by decide +kernel
theorem dX9_reachAround_1 : decode cX9_reachAround 1 = .ok (.istore_n 3, 1) := by decide +kernel
theorem dX9_reachAround_2 : decode cX9_reachAround 2 = .ok (.iload_n 3, 1) := by decide +kernel
theorem dX9_reachAround_3 : decode cX9_reachAround 3 = .ok (.iconst 4, 1) := by decide +kernel
theorem dX9_reachAround_4 : decode cX9_reachAround 4 = .ok (.if_icmp .ge 54, 3) := by decide +kernel
theorem dX9_reachAround_7 : decode cX9_reachAround 7 = .ok (.iload_n 2, 1) := by decide +kernel
theorem dX9_reachAround_8 : decode cX9_reachAround 8 = .ok (.iload_n 3, 1) := by decide +kernel
theorem dX9_reachAround_9 : decode cX9_reachAround 9 = .ok (.invokestatic 37, 3) := by decide +kernel
theorem dX9_reachAround_12 : decode cX9_reachAround 12 = .ok (.istore 4, 2) := by decide +kernel
theorem dX9_reachAround_14 : decode cX9_reachAround 14 = .ok (.iload 4, 2) := by decide +kernel
theorem dX9_reachAround_16 : decode cX9_reachAround 16 = .ok (.iconst (-1), 1) := by decide +kernel
theorem dX9_reachAround_17 : decode cX9_reachAround 17 = .ok (.if_icmp .eq 35, 3) := by decide +kernel
theorem dX9_reachAround_20 : decode cX9_reachAround 20 = .ok (.aload_n 1, 1) := by decide +kernel
theorem dX9_reachAround_21 : decode cX9_reachAround 21 = .ok (.iload_n 2, 1) := by decide +kernel
theorem dX9_reachAround_22 : decode cX9_reachAround 22 = .ok (.iload_n 3, 1) := by decide +kernel
theorem dX9_reachAround_23 : decode cX9_reachAround 23 = .ok (.invokevirtual 43, 3) := by decide +kernel
theorem dX9_reachAround_26 : decode cX9_reachAround 26 = .ok (.ifCond .ne 26, 3) := by decide +kernel
theorem dX9_reachAround_29 : decode cX9_reachAround 29 = .ok (.aload_n 1, 1) := by decide +kernel
theorem dX9_reachAround_30 : decode cX9_reachAround 30 = .ok (.iload 4, 2) := by decide +kernel
theorem dX9_reachAround_32 : decode cX9_reachAround 32 = .ok (.invokevirtual 47, 3) := by decide +kernel
theorem dX9_reachAround_35 : decode cX9_reachAround 35 = .ok (.ifCond .ne 17, 3) := by decide +kernel
theorem dX9_reachAround_38 : decode cX9_reachAround 38 = .ok (.aload_n 0, 1) := by decide +kernel
theorem dX9_reachAround_39 : decode cX9_reachAround 39 = .ok (.iload 4, 2) := by decide +kernel
theorem dX9_reachAround_41 : decode cX9_reachAround 41 = .ok (.aload_n 0, 1) := by decide +kernel
theorem dX9_reachAround_42 : decode cX9_reachAround 42 = .ok (.getfield 9, 3) := by decide +kernel
theorem dX9_reachAround_45 : decode cX9_reachAround 45 = .ok (.iload_n 2, 1) := by decide +kernel
theorem dX9_reachAround_46 : decode cX9_reachAround 46 = .ok (.iaload, 1) := by decide +kernel
theorem dX9_reachAround_47 : decode cX9_reachAround 47 = .ok (.iconst 1, 1) := by decide +kernel
theorem dX9_reachAround_48 : decode cX9_reachAround 48 = .ok (.iadd, 1) := by decide +kernel
theorem dX9_reachAround_49 : decode cX9_reachAround 49 = .ok (.invokevirtual 28, 3) := by decide +kernel
theorem dX9_reachAround_52 : decode cX9_reachAround 52 = .ok (.iinc 3 1, 3) := by decide +kernel
theorem dX9_reachAround_55 : decode cX9_reachAround 55 = .ok (.goto (-53), 3) := by decide +kernel
theorem dX9_reachAround_58 : decode cX9_reachAround 58 = .ok (.return_, 1) := by decide +kernel
theorem dX9_reach_0 : decode cX9_reach 0 = .ok (.aload_n 0, 1) := by decide +kernel
theorem dX9_reach_1 : decode cX9_reach 1 = .ok (.getfield 9, 3) := by decide +kernel
theorem dX9_reach_4 : decode cX9_reach 4 = .ok (.iload_n 1, 1) := by decide +kernel
theorem dX9_reach_5 : decode cX9_reach 5 = .ok (.iaload, 1) := by decide +kernel
theorem dX9_reach_6 : decode cX9_reach 6 = .ok (.iconst (-1), 1) := by decide +kernel
theorem dX9_reach_7 : decode cX9_reach 7 = .ok (.if_icmp .ne 39, 3) := by decide +kernel
theorem dX9_reach_10 : decode cX9_reach 10 = .ok (.aload_n 0, 1) := by decide +kernel
theorem dX9_reach_11 : decode cX9_reach 11 = .ok (.getfield 24, 3) := by decide +kernel
theorem dX9_reach_14 : decode cX9_reach 14 = .ok (.bipush 64, 2) := by decide +kernel
theorem dX9_reach_16 : decode cX9_reach 16 = .ok (.if_icmp .ge 30, 3) := by decide +kernel
theorem dX9_reach_19 : decode cX9_reach 19 = .ok (.aload_n 0, 1) := by decide +kernel
theorem dX9_reach_20 : decode cX9_reach 20 = .ok (.getfield 9, 3) := by decide +kernel
theorem dX9_reach_23 : decode cX9_reach 23 = .ok (.iload_n 1, 1) := by decide +kernel
theorem dX9_reach_24 : decode cX9_reach 24 = .ok (.iload_n 2, 1) := by decide +kernel
theorem dX9_reach_25 : decode cX9_reach 25 = .ok (.iastore, 1) := by decide +kernel
theorem dX9_reach_26 : decode cX9_reach 26 = .ok (.aload_n 0, 1) := by decide +kernel
theorem dX9_reach_27 : decode cX9_reach 27 = .ok (.getfield 15, 3) := by decide +kernel
theorem dX9_reach_30 : decode cX9_reach 30 = .ok (.aload_n 0, 1) := by decide +kernel
theorem dX9_reach_31 : decode cX9_reach 31 = .ok (.getfield 24, 3) := by decide +kernel
theorem dX9_reach_34 : decode cX9_reach 34 = .ok (.iload_n 1, 1) := by decide +kernel
theorem dX9_reach_35 : decode cX9_reach 35 = .ok (.iastore, 1) := by decide +kernel
theorem dX9_reach_36 : decode cX9_reach 36 = .ok (.aload_n 0, 1) := by decide +kernel
theorem dX9_reach_37 : decode cX9_reach 37 = .ok (.dup, 1) := by decide +kernel
theorem dX9_reach_38 : decode cX9_reach 38 = .ok (.getfield 24, 3) := by decide +kernel
theorem dX9_reach_41 : decode cX9_reach 41 = .ok (.iconst 1, 1) := by decide +kernel
theorem dX9_reach_42 : decode cX9_reach 42 = .ok (.iadd, 1) := by decide +kernel
theorem dX9_reach_43 : decode cX9_reach 43 = .ok (.putfield 24, 3) := by decide +kernel
theorem dX9_reach_46 : decode cX9_reach 46 = .ok (.return_, 1) := by decide +kernel
theorem dX10_init_0 : decode cX10_init 0 = .ok (.aload_n 0, 1) := by decide +kernel
theorem dX10_init_1 : decode cX10_init 1 = .ok (.invokespecial 1, 3) := by decide +kernel
theorem dX10_init_4 : decode cX10_init 4 = .ok (.aload_n 0, 1) := by decide +kernel
theorem dX10_init_5 : decode cX10_init 5 = .ok (.new 7, 3) := by decide +kernel
theorem dX10_init_8 : decode cX10_init 8 = .ok (.dup, 1) := by decide +kernel
theorem dX10_init_9 : decode cX10_init 9 = .ok (.invokespecial 9, 3) := by decide +kernel
theorem dX10_init_12 : decode cX10_init 12 = .ok (.putfield 10, 3) := by decide +kernel
theorem dX10_init_15 : decode cX10_init 15 = .ok (.aload_n 0, 1) := by decide +kernel
theorem dX10_init_16 : decode cX10_init 16 = .ok (.new 7, 3) := by decide +kernel
theorem dX10_init_19 : decode cX10_init 19 = .ok (.dup, 1) := by decide +kernel
theorem dX10_init_20 : decode cX10_init 20 = .ok (.invokespecial 9, 3) := by decide +kernel
theorem dX10_init_23 : decode cX10_init 23 = .ok (.putfield 16, 3) := by decide +kernel
theorem dX10_init_26 : decode cX10_init 26 = .ok (.aload_n 0, 1) := by decide +kernel
theorem dX10_init_27 : decode cX10_init 27 = .ok (.new 19, 3) := by decide +kernel
theorem dX10_init_30 : decode cX10_init 30 = .ok (.dup, 1) := by decide +kernel
theorem dX10_init_31 : decode cX10_init 31 = .ok (.invokespecial 21, 3) := by decide +kernel
theorem dX10_init_34 : decode cX10_init 34 = .ok (.putfield 22, 3) := by decide +kernel
theorem dX10_init_37 : decode cX10_init 37 = .ok (.aload_n 0, 1) := by decide +kernel
theorem dX10_init_38 : decode cX10_init 38 = .ok (.new 26, 3) := by decide +kernel
theorem dX10_init_41 : decode cX10_init 41 = .ok (.dup, 1) := by decide +kernel
theorem dX10_init_42 : decode cX10_init 42 = .ok (.invokespecial 28, 3) := by decide +kernel
theorem dX10_init_45 : decode cX10_init 45 = .ok (.putfield 29, 3) := by decide +kernel
theorem dX10_init_48 : decode cX10_init 48 = .ok (.aload_n 0, 1) := by decide +kernel
theorem dX10_init_49 : decode cX10_init 49 = .ok (.new 33, 3) := by decide +kernel
theorem dX10_init_52 : decode cX10_init 52 = .ok (.dup, 1) := by decide +kernel
theorem dX10_init_53 : decode cX10_init 53 = .ok (.invokespecial 35, 3) := by decide +kernel
theorem dX10_init_56 : decode cX10_init 56 = .ok (.putfield 36, 3) := by decide +kernel
theorem dX10_init_59 : decode cX10_init 59 = .ok (.aload_n 0, 1) := by decide +kernel
theorem dX10_init_60 : decode cX10_init 60 = .ok (.new 40, 3) := by decide +kernel
theorem dX10_init_63 : decode cX10_init 63 = .ok (.dup, 1) := by decide +kernel
theorem dX10_init_64 : decode cX10_init 64 = .ok (.invokespecial 42, 3) := by decide +kernel
theorem dX10_init_67 : decode cX10_init 67 = .ok (.putfield 43, 3) := by decide +kernel
theorem dX10_init_70 : decode cX10_init 70 = .ok (.aload_n 0, 1) := by decide +kernel
theorem dX10_init_71 : decode cX10_init 71 = .ok (.new 47, 3) := by decide +kernel
theorem dX10_init_74 : decode cX10_init 74 = .ok (.dup, 1) := by decide +kernel
theorem dX10_init_75 : decode cX10_init 75 = .ok (.aload_n 0, 1) := by decide +kernel
theorem dX10_init_76 : decode cX10_init 76 = .ok (.getfield 43, 3) := by decide +kernel
theorem dX10_init_79 : decode cX10_init 79 = .ok (.aload_n 0, 1) := by decide +kernel
theorem dX10_init_80 : decode cX10_init 80 = .ok (.getfield 29, 3) := by decide +kernel
theorem dX10_init_83 : decode cX10_init 83 = .ok (.invokespecial 49, 3) := by decide +kernel
theorem dX10_init_86 : decode cX10_init 86 = .ok (.putfield 52, 3) := by decide +kernel
theorem dX10_init_89 : decode cX10_init 89 = .ok (.return_, 1) := by decide +kernel
theorem dX10_kind_0 : decode cX10_kind 0 = .ok (.aload_n 0, 1) := by decide +kernel
theorem dX10_kind_1 : decode cX10_kind 1 = .ok (.aload_n 0, 1) := by decide +kernel
theorem dX10_kind_2 : decode cX10_kind 2 = .ok (.invokevirtual 56, 3) := by decide +kernel
theorem dX10_kind_5 : decode cX10_kind 5 = .ok (.iload_n 1, 1) := by decide +kernel
theorem dX10_kind_6 : decode cX10_kind 6 = .ok (.iload_n 2, 1) := by decide +kernel
theorem dX10_kind_7 : decode cX10_kind 7 = .ok (.invokevirtual 60, 3) := by decide +kernel
theorem dX10_kind_10 : decode cX10_kind 10 = .ok (.invokevirtual 64, 3) := by decide +kernel
theorem dX10_kind_13 : decode cX10_kind 13 = .ok (.ireturn, 1) := by decide +kernel
theorem dX10_wall_0 : decode cX10_wall 0 = .ok (.aload_n 0, 1) := by decide +kernel
theorem dX10_wall_1 : decode cX10_wall 1 = .ok (.aload_n 0, 1) := by decide +kernel
theorem dX10_wall_2 : decode cX10_wall 2 = .ok (.invokevirtual 56, 3) := by decide +kernel
theorem dX10_wall_5 : decode cX10_wall 5 = .ok (.iload_n 1, 1) := by decide +kernel
theorem dX10_wall_6 : decode cX10_wall 6 = .ok (.iload_n 2, 1) := by decide +kernel
theorem dX10_wall_7 : decode cX10_wall 7 = .ok (.invokevirtual 68, 3) := by decide +kernel
theorem dX10_wall_10 : decode cX10_wall 10 = .ok (.invokevirtual 64, 3) := by decide +kernel
theorem dX10_wall_13 : decode cX10_wall 13 = .ok (.ireturn, 1) := by decide +kernel
theorem dX10_flag_0 : decode cX10_flag 0 = .ok (.aload_n 0, 1) := by decide +kernel
theorem dX10_flag_1 : decode cX10_flag 1 = .ok (.aload_n 0, 1) := by decide +kernel
theorem dX10_flag_2 : decode cX10_flag 2 = .ok (.invokevirtual 56, 3) := by decide +kernel
theorem dX10_flag_5 : decode cX10_flag 5 = .ok (.iload_n 1, 1) := by decide +kernel
theorem dX10_flag_6 : decode cX10_flag 6 = .ok (.iload_n 2, 1) := by decide +kernel
theorem dX10_flag_7 : decode cX10_flag 7 = .ok (.invokevirtual 71, 3) := by decide +kernel
theorem dX10_flag_10 : decode cX10_flag 10 = .ok (.invokevirtual 64, 3) := by decide +kernel
theorem dX10_flag_13 : decode cX10_flag 13 = .ok (.ireturn, 1) := by decide +kernel
theorem dX10_cart_0 : decode cX10_cart 0 = .ok (.aload_n 0, 1) := by decide +kernel
theorem dX10_cart_1 : decode cX10_cart 1 = .ok (.aload_n 0, 1) := by decide +kernel
theorem dX10_cart_2 : decode cX10_cart 2 = .ok (.invokevirtual 56, 3) := by decide +kernel
theorem dX10_cart_5 : decode cX10_cart 5 = .ok (.iload_n 1, 1) := by decide +kernel
theorem dX10_cart_6 : decode cX10_cart 6 = .ok (.iload_n 2, 1) := by decide +kernel
theorem dX10_cart_7 : decode cX10_cart 7 = .ok (.invokevirtual 74, 3) := by decide +kernel
theorem dX10_cart_10 : decode cX10_cart 10 = .ok (.invokevirtual 64, 3) := by decide +kernel
theorem dX10_cart_13 : decode cX10_cart 13 = .ok (.ireturn, 1) := by decide +kernel
theorem dX10_card_0 : decode cX10_card 0 = .ok (.aload_n 0, 1) := by decide +kernel
theorem dX10_card_1 : decode cX10_card 1 = .ok (.aload_n 0, 1) := by decide +kernel
theorem dX10_card_2 : decode cX10_card 2 = .ok (.invokevirtual 56, 3) := by decide +kernel
theorem dX10_card_5 : decode cX10_card 5 = .ok (.iload_n 1, 1) := by decide +kernel
theorem dX10_card_6 : decode cX10_card 6 = .ok (.iload_n 2, 1) := by decide +kernel
theorem dX10_card_7 : decode cX10_card 7 = .ok (.iload_n 3, 1) := by decide +kernel
theorem dX10_card_8 : decode cX10_card 8 = .ok (.iload 4, 2) := by decide +kernel
theorem dX10_card_10 : decode cX10_card 10 = .ok (.invokevirtual 77, 3) := by decide +kernel
theorem dX10_card_13 : decode cX10_card 13 = .ok (.invokevirtual 64, 3) := by decide +kernel
theorem dX10_card_16 : decode cX10_card 16 = .ok (.ireturn, 1) := by decide +kernel
theorem dX10_damage_0 : decode cX10_damage 0 = .ok (.aload_n 0, 1) := by decide +kernel
theorem dX10_damage_1 : decode cX10_damage 1 = .ok (.aload_n 0, 1) := by decide +kernel
theorem dX10_damage_2 : decode cX10_damage 2 = .ok (.invokevirtual 56, 3) := by decide +kernel
theorem dX10_damage_5 : decode cX10_damage 5 = .ok (.iload_n 1, 1) := by decide +kernel
theorem dX10_damage_6 : decode cX10_damage 6 = .ok (.iload_n 2, 1) := by decide +kernel
theorem dX10_damage_7 : decode cX10_damage 7 = .ok (.invokevirtual 81, 3) := by decide +kernel
theorem dX10_damage_10 : decode cX10_damage 10 = .ok (.invokevirtual 64, 3) := by decide +kernel
theorem dX10_damage_13 : decode cX10_damage 13 = .ok (.ireturn, 1) := by decide +kernel
theorem dX10_phase_0 : decode cX10_phase 0 = .ok (.aload_n 0, 1) := by decide +kernel
theorem dX10_phase_1 : decode cX10_phase 1 = .ok (.aload_n 0, 1) := by decide +kernel
theorem dX10_phase_2 : decode cX10_phase 2 = .ok (.getfield 29, 3) := by decide +kernel
theorem dX10_phase_5 : decode cX10_phase 5 = .ok (.aload_n 0, 1) := by decide +kernel
theorem dX10_phase_6 : decode cX10_phase 6 = .ok (.invokevirtual 56, 3) := by decide +kernel
theorem dX10_phase_9 : decode cX10_phase 9 = .ok (.invokevirtual 84, 3) := by decide +kernel
theorem dX10_phase_12 : decode cX10_phase 12 = .ok (.invokevirtual 64, 3) := by decide +kernel
theorem dX10_phase_15 : decode cX10_phase 15 = .ok (.ireturn, 1) := by decide +kernel
theorem dX10_round_0 : decode cX10_round 0 = .ok (.aload_n 0, 1) := by decide +kernel
theorem dX10_round_1 : decode cX10_round 1 = .ok (.aload_n 0, 1) := by decide +kernel
theorem dX10_round_2 : decode cX10_round 2 = .ok (.getfield 29, 3) := by decide +kernel
theorem dX10_round_5 : decode cX10_round 5 = .ok (.aload_n 0, 1) := by decide +kernel
theorem dX10_round_6 : decode cX10_round 6 = .ok (.invokevirtual 56, 3) := by decide +kernel
theorem dX10_round_9 : decode cX10_round 9 = .ok (.invokevirtual 88, 3) := by decide +kernel
theorem dX10_round_12 : decode cX10_round 12 = .ok (.invokevirtual 64, 3) := by decide +kernel
theorem dX10_round_15 : decode cX10_round 15 = .ok (.ireturn, 1) := by decide +kernel
theorem dX10_cellOf_0 : decode cX10_cellOf 0 = .ok (.iload_n 1, 1) := by decide +kernel
theorem dX10_cellOf_1 : decode cX10_cellOf 1 = .ok (.invokestatic 91, 3) := by decide +kernel
theorem dX10_cellOf_4 : decode cX10_cellOf 4 = .ok (.ifCond .eq 12, 3) := by decide +kernel
theorem dX10_cellOf_7 : decode cX10_cellOf 7 = .ok (.iload_n 2, 1) := by decide +kernel
theorem dX10_cellOf_8 : decode cX10_cellOf 8 = .ok (.iconst 0, 1) := by decide +kernel
theorem dX10_cellOf_9 : decode cX10_cellOf 9 = .ok (.iconst 3, 1) := by decide +kernel
theorem dX10_cellOf_10 : decode cX10_cellOf 10 = .ok (.invokestatic 95, 3) := by decide +kernel
theorem dX10_cellOf_13 : decode cX10_cellOf 13 = .ok (.ifCond .ne 6, 3) := by decide +kernel
theorem dX10_cellOf_16 : decode cX10_cellOf 16 = .ok (.ldc 99, 2) := by decide +kernel
theorem dX10_cellOf_18 : decode cX10_cellOf 18 = .ok (.ireturn, 1) := by decide +kernel
theorem dX10_cellOf_19 : decode cX10_cellOf 19 = .ok (.aload_n 0, 1) := by decide +kernel
theorem dX10_cellOf_20 : decode cX10_cellOf 20 = .ok (.getfield 10, 3) := by decide +kernel
theorem dX10_cellOf_23 : decode cX10_cellOf 23 = .ok (.iload_n 1, 1) := by decide +kernel
theorem dX10_cellOf_24 : decode cX10_cellOf 24 = .ok (.iload_n 2, 1) := by decide +kernel
theorem dX10_cellOf_25 : decode cX10_cellOf 25 = .ok (.invokevirtual 100, 3) := by decide +kernel
theorem dX10_cellOf_28 : decode cX10_cellOf 28 = .ok (.ireturn, 1) := by decide +kernel
theorem dX10_cartOf_0 : decode cX10_cartOf 0 = .ok (.aload_n 0, 1) := by decide +kernel
theorem dX10_cartOf_1 : decode cX10_cartOf 1 = .ok (.getfield 10, 3) := by decide +kernel
theorem dX10_cartOf_4 : decode cX10_cartOf 4 = .ok (.iload_n 1, 1) := by decide +kernel
theorem dX10_cartOf_5 : decode cX10_cartOf 5 = .ok (.invokevirtual 103, 3) := by decide +kernel
theorem dX10_cartOf_8 : decode cX10_cartOf 8 = .ok (.ifCond .eq 13, 3) := by decide +kernel
theorem dX10_cartOf_11 : decode cX10_cartOf 11 = .ok (.iload_n 2, 1) := by decide +kernel
theorem dX10_cartOf_12 : decode cX10_cartOf 12 = .ok (.iconst 0, 1) := by decide +kernel
theorem dX10_cartOf_13 : decode cX10_cartOf 13 = .ok (.bipush 8, 2) := by decide +kernel
theorem dX10_cartOf_15 : decode cX10_cartOf 15 = .ok (.invokestatic 95, 3) := by decide +kernel
theorem dX10_cartOf_18 : decode cX10_cartOf 18 = .ok (.ifCond .ne 6, 3) := by decide +kernel
theorem dX10_cartOf_21 : decode cX10_cartOf 21 = .ok (.ldc 99, 2) := by decide +kernel
theorem dX10_cartOf_23 : decode cX10_cartOf 23 = .ok (.ireturn, 1) := by decide +kernel
theorem dX10_cartOf_24 : decode cX10_cartOf 24 = .ok (.aload_n 0, 1) := by decide +kernel
theorem dX10_cartOf_25 : decode cX10_cartOf 25 = .ok (.getfield 10, 3) := by decide +kernel
theorem dX10_cartOf_28 : decode cX10_cartOf 28 = .ok (.getfield 106, 3) := by decide +kernel
theorem dX10_cartOf_31 : decode cX10_cartOf 31 = .ok (.iload_n 1, 1) := by decide +kernel
theorem dX10_cartOf_32 : decode cX10_cartOf 32 = .ok (.aaload, 1) := by decide +kernel
theorem dX10_cartOf_33 : decode cX10_cartOf 33 = .ok (.iload_n 2, 1) := by decide +kernel
theorem dX10_cartOf_34 : decode cX10_cartOf 34 = .ok (.invokevirtual 110, 3) := by decide +kernel
theorem dX10_cartOf_37 : decode cX10_cartOf 37 = .ok (.ireturn, 1) := by decide +kernel
theorem dX10_cardOf_0 : decode cX10_cardOf 0 = .ok (.aload_n 0, 1) := by decide +kernel
theorem dX10_cardOf_1 : decode cX10_cardOf 1 = .ok (.getfield 10, 3) := by decide +kernel
theorem dX10_cardOf_4 : decode cX10_cardOf 4 = .ok (.iload_n 1, 1) := by decide +kernel
theorem dX10_cardOf_5 : decode cX10_cardOf 5 = .ok (.invokevirtual 103, 3) := by decide +kernel
theorem dX10_cardOf_8 : decode cX10_cardOf 8 = .ok (.ifCond .eq 19, 3) := by decide +kernel
theorem dX10_cardOf_11 : decode cX10_cardOf 11 = .ok (.iload_n 2, 1) := by decide +kernel
theorem dX10_cardOf_12 : decode cX10_cardOf 12 = .ok (.invokestatic 115, 3) := by decide +kernel
theorem dX10_cardOf_15 : decode cX10_cardOf 15 = .ok (.ifCond .eq 12, 3) := by decide +kernel
theorem dX10_cardOf_18 : decode cX10_cardOf 18 = .ok (.iload_n 3, 1) := by decide +kernel
theorem dX10_cardOf_19 : decode cX10_cardOf 19 = .ok (.iconst 0, 1) := by decide +kernel
theorem dX10_cardOf_20 : decode cX10_cardOf 20 = .ok (.iconst 1, 1) := by decide +kernel
theorem dX10_cardOf_21 : decode cX10_cardOf 21 = .ok (.invokestatic 95, 3) := by decide +kernel
theorem dX10_cardOf_24 : decode cX10_cardOf 24 = .ok (.ifCond .ne 6, 3) := by decide +kernel
theorem dX10_cardOf_27 : decode cX10_cardOf 27 = .ok (.ldc 99, 2) := by decide +kernel
theorem dX10_cardOf_29 : decode cX10_cardOf 29 = .ok (.ireturn, 1) := by decide +kernel
theorem dX10_cardOf_30 : decode cX10_cardOf 30 = .ok (.aload_n 0, 1) := by decide +kernel
theorem dX10_cardOf_31 : decode cX10_cardOf 31 = .ok (.getfield 10, 3) := by decide +kernel
theorem dX10_cardOf_34 : decode cX10_cardOf 34 = .ok (.getfield 106, 3) := by decide +kernel
theorem dX10_cardOf_37 : decode cX10_cardOf 37 = .ok (.iload_n 1, 1) := by decide +kernel
theorem dX10_cardOf_38 : decode cX10_cardOf 38 = .ok (.aaload, 1) := by decide +kernel
theorem dX10_cardOf_39 : decode cX10_cardOf 39 = .ok (.astore 4, 2) := by decide +kernel
theorem dX10_cardOf_41 : decode cX10_cardOf 41 = .ok (.aload 4, 2) := by decide +kernel
theorem dX10_cardOf_43 : decode cX10_cardOf 43 = .ok (.iload_n 2, 1) := by decide +kernel
theorem dX10_cardOf_44 : decode cX10_cardOf 44 = .ok (.invokevirtual 118, 3) := by decide +kernel
theorem dX10_cardOf_47 : decode cX10_cardOf 47 = .ok (.ifCond .ne 6, 3) := by decide +kernel
theorem dX10_cardOf_50 : decode cX10_cardOf 50 = .ok (.ldc 121, 2) := by decide +kernel
theorem dX10_cardOf_52 : decode cX10_cardOf 52 = .ok (.ireturn, 1) := by decide +kernel
theorem dX10_cardOf_53 : decode cX10_cardOf 53 = .ok (.iload_n 3, 1) := by decide +kernel
theorem dX10_cardOf_54 : decode cX10_cardOf 54 = .ok (.ifCond .ne 13, 3) := by decide +kernel
theorem dX10_cardOf_57 : decode cX10_cardOf 57 = .ok (.aload 4, 2) := by decide +kernel
theorem dX10_cardOf_59 : decode cX10_cardOf 59 = .ok (.getfield 122, 3) := by decide +kernel
theorem dX10_cardOf_62 : decode cX10_cardOf 62 = .ok (.iload_n 2, 1) := by decide +kernel
theorem dX10_cardOf_63 : decode cX10_cardOf 63 = .ok (.iaload, 1) := by decide +kernel
theorem dX10_cardOf_64 : decode cX10_cardOf 64 = .ok (.goto 10, 3) := by decide +kernel
theorem dX10_cardOf_67 : decode cX10_cardOf 67 = .ok (.aload 4, 2) := by decide +kernel
theorem dX10_cardOf_69 : decode cX10_cardOf 69 = .ok (.getfield 126, 3) := by decide +kernel
theorem dX10_cardOf_72 : decode cX10_cardOf 72 = .ok (.iload_n 2, 1) := by decide +kernel
theorem dX10_cardOf_73 : decode cX10_cardOf 73 = .ok (.iaload, 1) := by decide +kernel
theorem dX10_cardOf_74 : decode cX10_cardOf 74 = .ok (.ireturn, 1) := by decide +kernel
theorem dX10_would_0 : decode cX10_would 0 = .ok (.aload_n 0, 1) := by decide +kernel
theorem dX10_would_1 : decode cX10_would 1 = .ok (.getfield 10, 3) := by decide +kernel
theorem dX10_would_4 : decode cX10_would 4 = .ok (.iload_n 1, 1) := by decide +kernel
theorem dX10_would_5 : decode cX10_would 5 = .ok (.invokevirtual 103, 3) := by decide +kernel
theorem dX10_would_8 : decode cX10_would 8 = .ok (.ifCond .eq 22, 3) := by decide +kernel
theorem dX10_would_11 : decode cX10_would 11 = .ok (.iload_n 2, 1) := by decide +kernel
theorem dX10_would_12 : decode cX10_would 12 = .ok (.iconst 0, 1) := by decide +kernel
theorem dX10_would_13 : decode cX10_would 13 = .ok (.bipush 20, 2) := by decide +kernel
theorem dX10_would_15 : decode cX10_would 15 = .ok (.invokestatic 95, 3) := by decide +kernel
theorem dX10_would_18 : decode cX10_would 18 = .ok (.ifCond .eq 12, 3) := by decide +kernel
theorem dX10_would_21 : decode cX10_would 21 = .ok (.iload_n 3, 1) := by decide +kernel
theorem dX10_would_22 : decode cX10_would 22 = .ok (.iconst 0, 1) := by decide +kernel
theorem dX10_would_23 : decode cX10_would 23 = .ok (.iconst 3, 1) := by decide +kernel
theorem dX10_would_24 : decode cX10_would 24 = .ok (.invokestatic 95, 3) := by decide +kernel
theorem dX10_would_27 : decode cX10_would 27 = .ok (.ifCond .ne 6, 3) := by decide +kernel
theorem dX10_would_30 : decode cX10_would 30 = .ok (.ldc 99, 2) := by decide +kernel
theorem dX10_would_32 : decode cX10_would 32 = .ok (.ireturn, 1) := by decide +kernel
theorem dX10_would_33 : decode cX10_would 33 = .ok (.aload_n 0, 1) := by decide +kernel
theorem dX10_would_34 : decode cX10_would 34 = .ok (.invokevirtual 56, 3) := by decide +kernel
theorem dX10_would_37 : decode cX10_would 37 = .ok (.astore 4, 2) := by decide +kernel
theorem dX10_would_39 : decode cX10_would 39 = .ok (.iconst 0, 1) := by decide +kernel
theorem dX10_would_40 : decode cX10_would 40 = .ok (.istore 5, 2) := by decide +kernel
theorem dX10_would_42 : decode cX10_would 42 = .ok (.iload 5, 2) := by decide +kernel
theorem dX10_would_44 : decode cX10_would 44 = .ok (.iload_n 2, 1) := by decide +kernel
theorem dX10_would_45 : decode cX10_would 45 = .ok (.if_icmp .ge 19, 3) := by decide +kernel
theorem dX10_would_48 : decode cX10_would 48 = .ok (.aload_n 0, 1) := by decide +kernel
theorem dX10_would_49 : decode cX10_would 49 = .ok (.getfield 29, 3) := by decide +kernel
theorem dX10_would_52 : decode cX10_would 52 = .ok (.aload 4, 2) := by decide +kernel
theorem dX10_would_54 : decode cX10_would 54 = .ok (.invokevirtual 84, 3) := by decide +kernel
theorem dX10_would_57 : decode cX10_would 57 = .ok (.pop, 1) := by decide +kernel
theorem dX10_would_58 : decode cX10_would 58 = .ok (.iinc 5 1, 3) := by decide +kernel
theorem dX10_would_61 : decode cX10_would 61 = .ok (.goto (-19), 3) := by decide +kernel
theorem dX10_would_64 : decode cX10_would 64 = .ok (.aload 4, 2) := by decide +kernel
theorem dX10_would_66 : decode cX10_would 66 = .ok (.getfield 106, 3) := by decide +kernel
theorem dX10_would_69 : decode cX10_would 69 = .ok (.iload_n 1, 1) := by decide +kernel
theorem dX10_would_70 : decode cX10_would 70 = .ok (.aaload, 1) := by decide +kernel
theorem dX10_would_71 : decode cX10_would 71 = .ok (.iload_n 3, 1) := by decide +kernel
theorem dX10_would_72 : decode cX10_would 72 = .ok (.invokevirtual 110, 3) := by decide +kernel
theorem dX10_would_75 : decode cX10_would 75 = .ok (.ireturn, 1) := by decide +kernel
theorem dX10_best_0 : decode cX10_best 0 = .ok (.aload_n 0, 1) := by decide +kernel
theorem dX10_best_1 : decode cX10_best 1 = .ok (.getfield 10, 3) := by decide +kernel
theorem dX10_best_4 : decode cX10_best 4 = .ok (.iload_n 1, 1) := by decide +kernel
theorem dX10_best_5 : decode cX10_best 5 = .ok (.invokevirtual 103, 3) := by decide +kernel
theorem dX10_best_8 : decode cX10_best 8 = .ok (.ifCond .eq 23, 3) := by decide +kernel
theorem dX10_best_11 : decode cX10_best 11 = .ok (.iload_n 2, 1) := by decide +kernel
theorem dX10_best_12 : decode cX10_best 12 = .ok (.iconst 1, 1) := by decide +kernel
theorem dX10_best_13 : decode cX10_best 13 = .ok (.sipush 999, 3) := by decide +kernel
theorem dX10_best_16 : decode cX10_best 16 = .ok (.invokestatic 95, 3) := by decide +kernel
theorem dX10_best_19 : decode cX10_best 19 = .ok (.ifCond .eq 12, 3) := by decide +kernel
theorem dX10_best_22 : decode cX10_best 22 = .ok (.iload_n 3, 1) := by decide +kernel
theorem dX10_best_23 : decode cX10_best 23 = .ok (.iconst 0, 1) := by decide +kernel
theorem dX10_best_24 : decode cX10_best 24 = .ok (.iconst 1, 1) := by decide +kernel
theorem dX10_best_25 : decode cX10_best 25 = .ok (.invokestatic 95, 3) := by decide +kernel
theorem dX10_best_28 : decode cX10_best 28 = .ok (.ifCond .ne 6, 3) := by decide +kernel
theorem dX10_best_31 : decode cX10_best 31 = .ok (.ldc 99, 2) := by decide +kernel
theorem dX10_best_33 : decode cX10_best 33 = .ok (.ireturn, 1) := by decide +kernel
theorem dX10_best_34 : decode cX10_best 34 = .ok (.aload_n 0, 1) := by decide +kernel
theorem dX10_best_35 : decode cX10_best 35 = .ok (.getfield 10, 3) := by decide +kernel
theorem dX10_best_38 : decode cX10_best 38 = .ok (.getfield 106, 3) := by decide +kernel
theorem dX10_best_41 : decode cX10_best 41 = .ok (.iload_n 1, 1) := by decide +kernel
theorem dX10_best_42 : decode cX10_best 42 = .ok (.aaload, 1) := by decide +kernel
theorem dX10_best_43 : decode cX10_best 43 = .ok (.astore 4, 2) := by decide +kernel
theorem dX10_best_45 : decode cX10_best 45 = .ok (.aload 4, 2) := by decide +kernel
theorem dX10_best_47 : decode cX10_best 47 = .ok (.invokevirtual 133, 3) := by decide +kernel
theorem dX10_best_50 : decode cX10_best 50 = .ok (.ifCond .ne 36, 3) := by decide +kernel
theorem dX10_best_53 : decode cX10_best 53 = .ok (.aload 4, 2) := by decide +kernel
theorem dX10_best_55 : decode cX10_best 55 = .ok (.aload_n 0, 1) := by decide +kernel
theorem dX10_best_56 : decode cX10_best 56 = .ok (.getfield 10, 3) := by decide +kernel
theorem dX10_best_59 : decode cX10_best 59 = .ok (.getfield 137, 3) := by decide +kernel
theorem dX10_best_62 : decode cX10_best 62 = .ok (.invokevirtual 141, 3) := by decide +kernel
theorem dX10_best_65 : decode cX10_best 65 = .ok (.ifCond .ne 21, 3) := by decide +kernel
theorem dX10_best_68 : decode cX10_best 68 = .ok (.aload 4, 2) := by decide +kernel
theorem dX10_best_70 : decode cX10_best 70 = .ok (.getfield 144, 3) := by decide +kernel
theorem dX10_best_73 : decode cX10_best 73 = .ok (.aload_n 0, 1) := by decide +kernel
theorem dX10_best_74 : decode cX10_best 74 = .ok (.getfield 10, 3) := by decide +kernel
theorem dX10_best_77 : decode cX10_best 77 = .ok (.getfield 147, 3) := by decide +kernel
theorem dX10_best_80 : decode cX10_best 80 = .ok (.getfield 151, 3) := by decide +kernel
theorem dX10_best_83 : decode cX10_best 83 = .ok (.if_icmp .lt 6, 3) := by decide +kernel
theorem dX10_best_86 : decode cX10_best 86 = .ok (.ldc 156, 2) := by decide +kernel
theorem dX10_best_88 : decode cX10_best 88 = .ok (.ireturn, 1) := by decide +kernel
theorem dX10_best_89 : decode cX10_best 89 = .ok (.aload_n 0, 1) := by decide +kernel
theorem dX10_best_90 : decode cX10_best 90 = .ok (.getfield 10, 3) := by decide +kernel
theorem dX10_best_93 : decode cX10_best 93 = .ok (.getfield 147, 3) := by decide +kernel
theorem dX10_best_96 : decode cX10_best 96 = .ok (.getfield 157, 3) := by decide +kernel
theorem dX10_best_99 : decode cX10_best 99 = .ok (.aload 4, 2) := by decide +kernel
theorem dX10_best_101 : decode cX10_best 101 = .ok (.getfield 144, 3) := by decide +kernel
theorem dX10_best_104 : decode cX10_best 104 = .ok (.iaload, 1) := by decide +kernel
theorem dX10_best_105 : decode cX10_best 105 = .ok (.istore 5, 2) := by decide +kernel
theorem dX10_best_107 : decode cX10_best 107 = .ok (.iconst (-1), 1) := by decide +kernel
theorem dX10_best_108 : decode cX10_best 108 = .ok (.istore 6, 2) := by decide +kernel
theorem dX10_best_110 : decode cX10_best 110 = .ok (.iconst (-1), 1) := by decide +kernel
theorem dX10_best_111 : decode cX10_best 111 = .ok (.istore 7, 2) := by decide +kernel
theorem dX10_best_113 : decode cX10_best 113 = .ok (.iconst 0, 1) := by decide +kernel
theorem dX10_best_114 : decode cX10_best 114 = .ok (.istore 8, 2) := by decide +kernel
theorem dX10_best_116 : decode cX10_best 116 = .ok (.iload 8, 2) := by decide +kernel
theorem dX10_best_118 : decode cX10_best 118 = .ok (.bipush 6, 2) := by decide +kernel
theorem dX10_best_120 : decode cX10_best 120 = .ok (.if_icmp .gt 48, 3) := by decide +kernel
theorem dX10_best_123 : decode cX10_best 123 = .ok (.aload_n 0, 1) := by decide +kernel
theorem dX10_best_124 : decode cX10_best 124 = .ok (.iload_n 1, 1) := by decide +kernel
theorem dX10_best_125 : decode cX10_best 125 = .ok (.iload 8, 2) := by decide +kernel
theorem dX10_best_127 : decode cX10_best 127 = .ok (.iload_n 2, 1) := by decide +kernel
theorem dX10_best_128 : decode cX10_best 128 = .ok (.iload 5, 2) := by decide +kernel
theorem dX10_best_130 : decode cX10_best 130 = .ok (.invokevirtual 160, 3) := by decide +kernel
theorem dX10_best_133 : decode cX10_best 133 = .ok (.istore 9, 2) := by decide +kernel
theorem dX10_best_135 : decode cX10_best 135 = .ok (.iload 9, 2) := by decide +kernel
theorem dX10_best_137 : decode cX10_best 137 = .ok (.iconst (-1), 1) := by decide +kernel
theorem dX10_best_138 : decode cX10_best 138 = .ok (.if_icmp .eq 24, 3) := by decide +kernel
theorem dX10_best_141 : decode cX10_best 141 = .ok (.iload 7, 2) := by decide +kernel
theorem dX10_best_143 : decode cX10_best 143 = .ok (.iconst (-1), 1) := by decide +kernel
theorem dX10_best_144 : decode cX10_best 144 = .ok (.if_icmp .eq 10, 3) := by decide +kernel
theorem dX10_best_147 : decode cX10_best 147 = .ok (.iload 9, 2) := by decide +kernel
theorem dX10_best_149 : decode cX10_best 149 = .ok (.iload 7, 2) := by decide +kernel
theorem dX10_best_151 : decode cX10_best 151 = .ok (.if_icmp .ge 11, 3) := by decide +kernel
theorem dX10_best_154 : decode cX10_best 154 = .ok (.iload 8, 2) := by decide +kernel
theorem dX10_best_156 : decode cX10_best 156 = .ok (.istore 6, 2) := by decide +kernel
theorem dX10_best_158 : decode cX10_best 158 = .ok (.iload 9, 2) := by decide +kernel
theorem dX10_best_160 : decode cX10_best 160 = .ok (.istore 7, 2) := by decide +kernel
theorem dX10_best_162 : decode cX10_best 162 = .ok (.iinc 8 1, 3) := by decide +kernel
theorem dX10_best_165 : decode cX10_best 165 = .ok (.goto (-49), 3) := by decide +kernel
theorem dX10_best_168 : decode cX10_best 168 = .ok (.iload 6, 2) := by decide +kernel
theorem dX10_best_170 : decode cX10_best 170 = .ok (.iconst (-1), 1) := by decide +kernel
theorem dX10_best_171 : decode cX10_best 171 = .ok (.if_icmp .ne 6, 3) := by decide +kernel
theorem dX10_best_174 : decode cX10_best 174 = .ok (.ldc 121, 2) := by decide +kernel
theorem dX10_best_176 : decode cX10_best 176 = .ok (.ireturn, 1) := by decide +kernel
theorem dX10_best_177 : decode cX10_best 177 = .ok (.iload_n 3, 1) := by decide +kernel
theorem dX10_best_178 : decode cX10_best 178 = .ok (.ifCond .ne 8, 3) := by decide +kernel
theorem dX10_best_181 : decode cX10_best 181 = .ok (.iload 6, 2) := by decide +kernel
theorem dX10_best_183 : decode cX10_best 183 = .ok (.goto 5, 3) := by decide +kernel
theorem dX10_best_186 : decode cX10_best 186 = .ok (.iload 7, 2) := by decide +kernel
theorem dX10_best_188 : decode cX10_best 188 = .ok (.ireturn, 1) := by decide +kernel
theorem dX10_steps_0 : decode cX10_steps 0 = .ok (.iload_n 1, 1) := by decide +kernel
theorem dX10_steps_1 : decode cX10_steps 1 = .ok (.invokestatic 91, 3) := by decide +kernel
theorem dX10_steps_4 : decode cX10_steps 4 = .ok (.ifCond .eq 10, 3) := by decide +kernel
theorem dX10_steps_7 : decode cX10_steps 7 = .ok (.iload_n 2, 1) := by decide +kernel
theorem dX10_steps_8 : decode cX10_steps 8 = .ok (.invokestatic 91, 3) := by decide +kernel
theorem dX10_steps_11 : decode cX10_steps 11 = .ok (.ifCond .ne 6, 3) := by decide +kernel
theorem dX10_steps_14 : decode cX10_steps 14 = .ok (.ldc 99, 2) := by decide +kernel
theorem dX10_steps_16 : decode cX10_steps 16 = .ok (.ireturn, 1) := by decide +kernel
theorem dX10_steps_17 : decode cX10_steps 17 = .ok (.aload_n 0, 1) := by decide +kernel
theorem dX10_steps_18 : decode cX10_steps 18 = .ok (.getfield 36, 3) := by decide +kernel
theorem dX10_steps_21 : decode cX10_steps 21 = .ok (.aload_n 0, 1) := by decide +kernel
theorem dX10_steps_22 : decode cX10_steps 22 = .ok (.getfield 10, 3) := by decide +kernel
theorem dX10_steps_25 : decode cX10_steps 25 = .ok (.getfield 147, 3) := by decide +kernel
theorem dX10_steps_28 : decode cX10_steps 28 = .ok (.iload_n 1, 1) := by decide +kernel
theorem dX10_steps_29 : decode cX10_steps 29 = .ok (.iload_n 2, 1) := by decide +kernel
theorem dX10_steps_30 : decode cX10_steps 30 = .ok (.invokevirtual 163, 3) := by decide +kernel
theorem dX10_steps_33 : decode cX10_steps 33 = .ok (.ireturn, 1) := by decide +kernel
theorem dX10_count_0 : decode cX10_count 0 = .ok (.iload_n 1, 1) := by decide +kernel
theorem dX10_count_1 : decode cX10_count 1 = .ok (.tableswitch 154 0 9 #[55, 63, 71, 79, 90, 98, 122, 130, 138, 146], 55) := by decide +kernel
theorem dX10_count_56 : decode cX10_count 56 = .ok (.aload_n 0, 1) := by decide +kernel
theorem dX10_count_57 : decode cX10_count 57 = .ok (.getfield 10, 3) := by decide +kernel
theorem dX10_count_60 : decode cX10_count 60 = .ok (.getfield 167, 3) := by decide +kernel
theorem dX10_count_63 : decode cX10_count 63 = .ok (.ireturn, 1) := by decide +kernel
theorem dX10_count_64 : decode cX10_count 64 = .ok (.aload_n 0, 1) := by decide +kernel
theorem dX10_count_65 : decode cX10_count 65 = .ok (.getfield 10, 3) := by decide +kernel
theorem dX10_count_68 : decode cX10_count 68 = .ok (.getfield 137, 3) := by decide +kernel
theorem dX10_count_71 : decode cX10_count 71 = .ok (.ireturn, 1) := by decide +kernel
theorem dX10_count_72 : decode cX10_count 72 = .ok (.aload_n 0, 1) := by decide +kernel
theorem dX10_count_73 : decode cX10_count 73 = .ok (.getfield 10, 3) := by decide +kernel
theorem dX10_count_76 : decode cX10_count 76 = .ok (.getfield 170, 3) := by decide +kernel
theorem dX10_count_79 : decode cX10_count 79 = .ok (.ireturn, 1) := by decide +kernel
theorem dX10_count_80 : decode cX10_count 80 = .ok (.aload_n 0, 1) := by decide +kernel
theorem dX10_count_81 : decode cX10_count 81 = .ok (.getfield 10, 3) := by decide +kernel
theorem dX10_count_84 : decode cX10_count 84 = .ok (.getfield 147, 3) := by decide +kernel
theorem dX10_count_87 : decode cX10_count 87 = .ok (.getfield 151, 3) := by decide +kernel
theorem dX10_count_90 : decode cX10_count 90 = .ok (.ireturn, 1) := by decide +kernel
theorem dX10_count_91 : decode cX10_count 91 = .ok (.aload_n 0, 1) := by decide +kernel
theorem dX10_count_92 : decode cX10_count 92 = .ok (.getfield 10, 3) := by decide +kernel
theorem dX10_count_95 : decode cX10_count 95 = .ok (.invokevirtual 173, 3) := by decide +kernel
theorem dX10_count_98 : decode cX10_count 98 = .ok (.ireturn, 1) := by decide +kernel
theorem dX10_count_99 : decode cX10_count 99 = .ok (.aload_n 0, 1) := by decide +kernel
theorem dX10_count_100 : decode cX10_count 100 = .ok (.getfield 10, 3) := by decide +kernel
theorem dX10_count_103 : decode cX10_count 103 = .ok (.getfield 177, 3) := by decide +kernel
theorem dX10_count_106 : decode cX10_count 106 = .ok (.iconst (-1), 1) := by decide +kernel
theorem dX10_count_107 : decode cX10_count 107 = .ok (.if_icmp .ne 8, 3) := by decide +kernel
theorem dX10_count_110 : decode cX10_count 110 = .ok (.ldc 121, 2) := by decide +kernel
theorem dX10_count_112 : decode cX10_count 112 = .ok (.goto 10, 3) := by decide +kernel
theorem dX10_count_115 : decode cX10_count 115 = .ok (.aload_n 0, 1) := by decide +kernel
theorem dX10_count_116 : decode cX10_count 116 = .ok (.getfield 10, 3) := by decide +kernel
theorem dX10_count_119 : decode cX10_count 119 = .ok (.getfield 177, 3) := by decide +kernel
theorem dX10_count_122 : decode cX10_count 122 = .ok (.ireturn, 1) := by decide +kernel
theorem dX10_count_123 : decode cX10_count 123 = .ok (.aload_n 0, 1) := by decide +kernel
theorem dX10_count_124 : decode cX10_count 124 = .ok (.getfield 10, 3) := by decide +kernel
theorem dX10_count_127 : decode cX10_count 127 = .ok (.getfield 180, 3) := by decide +kernel
theorem dX10_count_130 : decode cX10_count 130 = .ok (.ireturn, 1) := by decide +kernel
theorem dX10_count_131 : decode cX10_count 131 = .ok (.aload_n 0, 1) := by decide +kernel
theorem dX10_count_132 : decode cX10_count 132 = .ok (.getfield 22, 3) := by decide +kernel
theorem dX10_count_135 : decode cX10_count 135 = .ok (.getfield 183, 3) := by decide +kernel
theorem dX10_count_138 : decode cX10_count 138 = .ok (.ireturn, 1) := by decide +kernel
theorem dX10_count_139 : decode cX10_count 139 = .ok (.aload_n 0, 1) := by decide +kernel
theorem dX10_count_140 : decode cX10_count 140 = .ok (.getfield 43, 3) := by decide +kernel
theorem dX10_count_143 : decode cX10_count 143 = .ok (.getfield 186, 3) := by decide +kernel
theorem dX10_count_146 : decode cX10_count 146 = .ok (.ireturn, 1) := by decide +kernel
theorem dX10_count_147 : decode cX10_count 147 = .ok (.aload_n 0, 1) := by decide +kernel
theorem dX10_count_148 : decode cX10_count 148 = .ok (.getfield 10, 3) := by decide +kernel
theorem dX10_count_151 : decode cX10_count 151 = .ok (.getfield 189, 3) := by decide +kernel
theorem dX10_count_154 : decode cX10_count 154 = .ok (.ireturn, 1) := by decide +kernel
theorem dX10_count_155 : decode cX10_count 155 = .ok (.ldc 99, 2) := by decide +kernel
theorem dX10_count_157 : decode cX10_count 157 = .ok (.ireturn, 1) := by decide +kernel
theorem dX10_undo_0 : decode cX10_undo 0 = .ok (.aload_n 0, 1) := by decide +kernel
theorem dX10_undo_1 : decode cX10_undo 1 = .ok (.getfield 22, 3) := by decide +kernel
theorem dX10_undo_4 : decode cX10_undo 4 = .ok (.getfield 183, 3) := by decide +kernel
theorem dX10_undo_7 : decode cX10_undo 7 = .ok (.ifCond .ne 6, 3) := by decide +kernel
theorem dX10_undo_10 : decode cX10_undo 10 = .ok (.ldc 156, 2) := by decide +kernel
theorem dX10_undo_12 : decode cX10_undo 12 = .ok (.ireturn, 1) := by decide +kernel
theorem dX10_undo_13 : decode cX10_undo 13 = .ok (.aload_n 0, 1) := by decide +kernel
theorem dX10_undo_14 : decode cX10_undo 14 = .ok (.getfield 22, 3) := by decide +kernel
theorem dX10_undo_17 : decode cX10_undo 17 = .ok (.aload_n 0, 1) := by decide +kernel
theorem dX10_undo_18 : decode cX10_undo 18 = .ok (.getfield 10, 3) := by decide +kernel
theorem dX10_undo_21 : decode cX10_undo 21 = .ok (.invokevirtual 192, 3) := by decide +kernel
theorem dX10_undo_24 : decode cX10_undo 24 = .ok (.aload_n 0, 1) := by decide +kernel
theorem dX10_undo_25 : decode cX10_undo 25 = .ok (.getfield 22, 3) := by decide +kernel
theorem dX10_undo_28 : decode cX10_undo 28 = .ok (.getfield 183, 3) := by decide +kernel
theorem dX10_undo_31 : decode cX10_undo 31 = .ok (.ireturn, 1) := by decide +kernel
theorem dX10_type_0 : decode cX10_type 0 = .ok (.iload_n 1, 1) := by decide +kernel
theorem dX10_type_1 : decode cX10_type 1 = .ok (.bipush 32, 2) := by decide +kernel
theorem dX10_type_3 : decode cX10_type 3 = .ok (.bipush 126, 2) := by decide +kernel
theorem dX10_type_5 : decode cX10_type 5 = .ok (.invokestatic 95, 3) := by decide +kernel
theorem dX10_type_8 : decode cX10_type 8 = .ok (.ifCond .ne 6, 3) := by decide +kernel
theorem dX10_type_11 : decode cX10_type 11 = .ok (.ldc 99, 2) := by decide +kernel
theorem dX10_type_13 : decode cX10_type 13 = .ok (.ireturn, 1) := by decide +kernel
theorem dX10_type_14 : decode cX10_type 14 = .ok (.aload_n 0, 1) := by decide +kernel
theorem dX10_type_15 : decode cX10_type 15 = .ok (.getfield 43, 3) := by decide +kernel
theorem dX10_type_18 : decode cX10_type 18 = .ok (.iload_n 1, 1) := by decide +kernel
theorem dX10_type_19 : decode cX10_type 19 = .ok (.i2c, 1) := by decide +kernel
theorem dX10_type_20 : decode cX10_type 20 = .ok (.invokevirtual 196, 3) := by decide +kernel
theorem dX10_type_23 : decode cX10_type 23 = .ok (.ireturn, 1) := by decide +kernel
theorem dX10_clearText_0 : decode cX10_clearText 0 = .ok (.aload_n 0, 1) := by decide +kernel
theorem dX10_clearText_1 : decode cX10_clearText 1 = .ok (.getfield 43, 3) := by decide +kernel
theorem dX10_clearText_4 : decode cX10_clearText 4 = .ok (.getfield 186, 3) := by decide +kernel
theorem dX10_clearText_7 : decode cX10_clearText 7 = .ok (.istore_n 1, 1) := by decide +kernel
theorem dX10_clearText_8 : decode cX10_clearText 8 = .ok (.aload_n 0, 1) := by decide +kernel
theorem dX10_clearText_9 : decode cX10_clearText 9 = .ok (.getfield 43, 3) := by decide +kernel
theorem dX10_clearText_12 : decode cX10_clearText 12 = .ok (.iconst 0, 1) := by decide +kernel
theorem dX10_clearText_13 : decode cX10_clearText 13 = .ok (.putfield 186, 3) := by decide +kernel
theorem dX10_clearText_16 : decode cX10_clearText 16 = .ok (.iload_n 1, 1) := by decide +kernel
theorem dX10_clearText_17 : decode cX10_clearText 17 = .ok (.ireturn, 1) := by decide +kernel
theorem dX10_fault_0 : decode cX10_fault 0 = .ok (.iload_n 1, 1) := by decide +kernel
theorem dX10_fault_1 : decode cX10_fault 1 = .ok (.iconst 0, 1) := by decide +kernel
theorem dX10_fault_2 : decode cX10_fault 2 = .ok (.iconst 2, 1) := by decide +kernel
theorem dX10_fault_3 : decode cX10_fault 3 = .ok (.invokestatic 95, 3) := by decide +kernel
theorem dX10_fault_6 : decode cX10_fault 6 = .ok (.ifCond .ne 6, 3) := by decide +kernel
theorem dX10_fault_9 : decode cX10_fault 9 = .ok (.ldc 99, 2) := by decide +kernel
theorem dX10_fault_11 : decode cX10_fault 11 = .ok (.ireturn, 1) := by decide +kernel
theorem dX10_fault_12 : decode cX10_fault 12 = .ok (.aload_n 0, 1) := by decide +kernel
theorem dX10_fault_13 : decode cX10_fault 13 = .ok (.getfield 52, 3) := by decide +kernel
theorem dX10_fault_16 : decode cX10_fault 16 = .ok (.aload_n 0, 1) := by decide +kernel
theorem dX10_fault_17 : decode cX10_fault 17 = .ok (.invokevirtual 56, 3) := by decide +kernel
theorem dX10_fault_20 : decode cX10_fault 20 = .ok (.invokevirtual 200, 3) := by decide +kernel
theorem dX10_fault_23 : decode cX10_fault 23 = .ok (.aload_n 0, 1) := by decide +kernel
theorem dX10_fault_24 : decode cX10_fault 24 = .ok (.getfield 52, 3) := by decide +kernel
theorem dX10_fault_27 : decode cX10_fault 27 = .ok (.invokevirtual 203, 3) := by decide +kernel
theorem dX10_fault_30 : decode cX10_fault 30 = .ok (.ifCond .ne 6, 3) := by decide +kernel
theorem dX10_fault_33 : decode cX10_fault 33 = .ok (.ldc 121, 2) := by decide +kernel
theorem dX10_fault_35 : decode cX10_fault 35 = .ok (.ireturn, 1) := by decide +kernel
theorem dX10_fault_36 : decode cX10_fault 36 = .ok (.iload_n 1, 1) := by decide +kernel
theorem dX10_fault_37 : decode cX10_fault 37 = .ok (.lookupswitch 43 #[(0, 27), (1, 35)], 27) := by decide +kernel
theorem dX10_fault_64 : decode cX10_fault 64 = .ok (.aload_n 0, 1) := by decide +kernel
theorem dX10_fault_65 : decode cX10_fault 65 = .ok (.getfield 52, 3) := by decide +kernel
theorem dX10_fault_68 : decode cX10_fault 68 = .ok (.getfield 206, 3) := by decide +kernel
theorem dX10_fault_71 : decode cX10_fault 71 = .ok (.ireturn, 1) := by decide +kernel
theorem dX10_fault_72 : decode cX10_fault 72 = .ok (.aload_n 0, 1) := by decide +kernel
theorem dX10_fault_73 : decode cX10_fault 73 = .ok (.getfield 52, 3) := by decide +kernel
theorem dX10_fault_76 : decode cX10_fault 76 = .ok (.getfield 209, 3) := by decide +kernel
theorem dX10_fault_79 : decode cX10_fault 79 = .ok (.ireturn, 1) := by decide +kernel
theorem dX10_fault_80 : decode cX10_fault 80 = .ok (.aload_n 0, 1) := by decide +kernel
theorem dX10_fault_81 : decode cX10_fault 81 = .ok (.getfield 52, 3) := by decide +kernel
theorem dX10_fault_84 : decode cX10_fault 84 = .ok (.getfield 212, 3) := by decide +kernel
theorem dX10_fault_87 : decode cX10_fault 87 = .ok (.ireturn, 1) := by decide +kernel
theorem dX10_play_0 : decode cX10_play 0 = .ok (.aload_n 0, 1) := by decide +kernel
theorem dX10_play_1 : decode cX10_play 1 = .ok (.getfield 52, 3) := by decide +kernel
theorem dX10_play_4 : decode cX10_play 4 = .ok (.aload_n 0, 1) := by decide +kernel
theorem dX10_play_5 : decode cX10_play 5 = .ok (.invokevirtual 56, 3) := by decide +kernel
theorem dX10_play_8 : decode cX10_play 8 = .ok (.invokevirtual 200, 3) := by decide +kernel
theorem dX10_play_11 : decode cX10_play 11 = .ok (.aload_n 0, 1) := by decide +kernel
theorem dX10_play_12 : decode cX10_play 12 = .ok (.aload_n 0, 1) := by decide +kernel
theorem dX10_play_13 : decode cX10_play 13 = .ok (.getfield 52, 3) := by decide +kernel
theorem dX10_play_16 : decode cX10_play 16 = .ok (.invokevirtual 203, 3) := by decide +kernel
theorem dX10_play_19 : decode cX10_play 19 = .ok (.ifCond .eq 8, 3) := by decide +kernel
theorem dX10_play_22 : decode cX10_play 22 = .ok (.ldc 156, 2) := by decide +kernel
theorem dX10_play_24 : decode cX10_play 24 = .ok (.goto 10, 3) := by decide +kernel
theorem dX10_play_27 : decode cX10_play 27 = .ok (.aload_n 0, 1) := by decide +kernel
theorem dX10_play_28 : decode cX10_play 28 = .ok (.getfield 52, 3) := by decide +kernel
theorem dX10_play_31 : decode cX10_play 31 = .ok (.getfield 215, 3) := by decide +kernel
theorem dX10_play_34 : decode cX10_play 34 = .ok (.invokevirtual 64, 3) := by decide +kernel
theorem dX10_play_37 : decode cX10_play 37 = .ok (.ireturn, 1) := by decide +kernel
theorem dX10_freshTrial_0 : decode cX10_freshTrial 0 = .ok (.aload_n 0, 1) := by decide +kernel
theorem dX10_freshTrial_1 : decode cX10_freshTrial 1 = .ok (.getfield 16, 3) := by decide +kernel
theorem dX10_freshTrial_4 : decode cX10_freshTrial 4 = .ok (.aload_n 0, 1) := by decide +kernel
theorem dX10_freshTrial_5 : decode cX10_freshTrial 5 = .ok (.getfield 10, 3) := by decide +kernel
theorem dX10_freshTrial_8 : decode cX10_freshTrial 8 = .ok (.invokevirtual 218, 3) := by decide +kernel
theorem dX10_freshTrial_11 : decode cX10_freshTrial 11 = .ok (.aload_n 0, 1) := by decide +kernel
theorem dX10_freshTrial_12 : decode cX10_freshTrial 12 = .ok (.getfield 16, 3) := by decide +kernel
theorem dX10_freshTrial_15 : decode cX10_freshTrial 15 = .ok (.areturn, 1) := by decide +kernel
theorem dX10_keep_0 : decode cX10_keep 0 = .ok (.iload_n 1, 1) := by decide +kernel
theorem dX10_keep_1 : decode cX10_keep 1 = .ok (.invokestatic 221, 3) := by decide +kernel
theorem dX10_keep_4 : decode cX10_keep 4 = .ok (.ifCond .ne 25, 3) := by decide +kernel
theorem dX10_keep_7 : decode cX10_keep 7 = .ok (.aload_n 0, 1) := by decide +kernel
theorem dX10_keep_8 : decode cX10_keep 8 = .ok (.getfield 22, 3) := by decide +kernel
theorem dX10_keep_11 : decode cX10_keep 11 = .ok (.aload_n 0, 1) := by decide +kernel
theorem dX10_keep_12 : decode cX10_keep 12 = .ok (.getfield 10, 3) := by decide +kernel
theorem dX10_keep_15 : decode cX10_keep 15 = .ok (.invokevirtual 224, 3) := by decide +kernel
theorem dX10_keep_18 : decode cX10_keep 18 = .ok (.aload_n 0, 1) := by decide +kernel
theorem dX10_keep_19 : decode cX10_keep 19 = .ok (.getfield 10, 3) := by decide +kernel
theorem dX10_keep_22 : decode cX10_keep 22 = .ok (.aload_n 0, 1) := by decide +kernel
theorem dX10_keep_23 : decode cX10_keep 23 = .ok (.getfield 16, 3) := by decide +kernel
theorem dX10_keep_26 : decode cX10_keep 26 = .ok (.invokevirtual 218, 3) := by decide +kernel
theorem dX10_keep_29 : decode cX10_keep 29 = .ok (.iload_n 1, 1) := by decide +kernel
theorem dX10_keep_30 : decode cX10_keep 30 = .ok (.ireturn, 1) := by decide +kernel
theorem dX10_distanceBehind_0 : decode cX10_distanceBehind 0 = .ok (.aload_n 0, 1) := by decide +kernel
theorem dX10_distanceBehind_1 : decode cX10_distanceBehind 1 = .ok (.invokevirtual 56, 3) := by decide +kernel
theorem dX10_distanceBehind_4 : decode cX10_distanceBehind 4 = .ok (.astore 5, 2) := by decide +kernel
theorem dX10_distanceBehind_6 : decode cX10_distanceBehind 6 = .ok (.aload 5, 2) := by decide +kernel
theorem dX10_distanceBehind_8 : decode cX10_distanceBehind 8 = .ok (.getfield 106, 3) := by decide +kernel
theorem dX10_distanceBehind_11 : decode cX10_distanceBehind 11 = .ok (.iload_n 1, 1) := by decide +kernel
theorem dX10_distanceBehind_12 : decode cX10_distanceBehind 12 = .ok (.aaload, 1) := by decide +kernel
theorem dX10_distanceBehind_13 : decode cX10_distanceBehind 13 = .ok (.astore 6, 2) := by decide +kernel
theorem dX10_distanceBehind_15 : decode cX10_distanceBehind 15 = .ok (.aload 6, 2) := by decide +kernel
theorem dX10_distanceBehind_17 : decode cX10_distanceBehind 17 = .ok (.aload 5, 2) := by decide +kernel
theorem dX10_distanceBehind_19 : decode cX10_distanceBehind 19 = .ok (.getfield 137, 3) := by decide +kernel
theorem dX10_distanceBehind_22 : decode cX10_distanceBehind 22 = .ok (.iload_n 2, 1) := by decide +kernel
theorem dX10_distanceBehind_23 : decode cX10_distanceBehind 23 = .ok (.iload_n 3, 1) := by decide +kernel
theorem dX10_distanceBehind_24 : decode cX10_distanceBehind 24 = .ok (.invokevirtual 227, 3) := by decide +kernel
theorem dX10_distanceBehind_27 : decode cX10_distanceBehind 27 = .ok (.aload 6, 2) := by decide +kernel
theorem dX10_distanceBehind_29 : decode cX10_distanceBehind 29 = .ok (.getfield 231, 3) := by decide +kernel
theorem dX10_distanceBehind_32 : decode cX10_distanceBehind 32 = .ok (.istore 7, 2) := by decide +kernel
